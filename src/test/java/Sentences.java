import java.util.List;
import java.util.concurrent.Callable;
import java.util.function.Function;
import java.util.function.Supplier;

/**
 * What the tests of the document's sentences share: each test says its sentence first, so that a wrong answer
 * is told with the words that it breaks.
 */
abstract class Sentences {
    static final Checks CHECKS = new Checks();
    static final String OUT = "throws.IndexOutOfBoundsException";
    static final String STATE = "throws.IllegalStateException";
    static final String ARGUMENT = "throws.IllegalArgumentException";
    static final String UNSUPPORTED = "throws.UnsupportedOperationException";
    static final int NONE = -1;
    static final int CRASHED = -2;
    static final int LOW = Integer.MIN_VALUE;
    static final int HIGH = Integer.MAX_VALUE;
    static final int[] NO_USERS = {-1, 4, LOW, HIGH};
    static final int[] TWELVE = {1, 2, 3, 4, 5, 6, 7, 8, 9, 10, 11, 12};
    static final int[] OTHER_TWELVE = {21, 22, 23, 24, 25, 26, 27, 28, 29, 30, 31, 32};

    // One object is good for 512 calls, so each part of the state is looked at on an object of its own.
    private static final List<Function<DeltaHistory, String>> PARTS = List.of(
        Sentences::deskStepsAndAside, x -> bytesOf(x, false), Sentences::allAbout, Sentences::twoChanges);

    static void says(String sentence) {
        CHECKS.says(sentence);
    }

    static void due(String what, Object want, Callable<?> call) {
        CHECKS.due(what, want, call);
    }

    /** The call answers what is due, and then the object is in every part as if it had not been made. */
    static void changesNothing(String what, Object want, Supplier<DeltaHistory> before,
            Function<DeltaHistory, Object> call) {
        for (Function<DeltaHistory, String> part : PARTS) {
            DeltaHistory x = before.get();
            DeltaHistory y = before.get();
            due(what, want, () -> call.apply(x));
            due(what + ": nothing is changed", part.apply(y), () -> part.apply(x));
        }
    }

    private static String deskStepsAndAside(DeltaHistory x) {
        return deskOf(x) + "; " + stepsOf(x) + "; " + bytesOf(x, true);
    }

    private static String allAbout(DeltaHistory x) {
        StringBuilder told = new StringBuilder();
        for (int r = 0; r < x.revisions(); r++) {
            for (int what = 0; what < 6; what++) {
                told.append(x.about(r, what)).append(' ');
            }
        }
        return told.toString();
    }

    /** The first change tells whether a crash is set; the second one writes what all revisions are. */
    private static String twoChanges(DeltaHistory x) {
        return change(x) + " " + x.size(true) + " " + change(x) + ": " + bytesOf(x, false);
    }

    private static int change(DeltaHistory x) {
        if (x.revisions() == 0) {
            return x.checkIn(0, NONE);
        }
        int lock = x.about(0, 2);
        return lock == NONE ? x.lock(0, 0) : x.unlock(lock, 0);
    }

    static String deskOf(DeltaHistory x) {
        StringBuilder told = new StringBuilder();
        for (int k = 0; x.line(k) != NONE; k++) {
            told.append(k == 0 ? "" : " ").append(x.line(k));
        }
        return told.toString();
    }

    static String textOf(DeltaHistory x, int revision) {
        x.checkOut(revision);
        return deskOf(x);
    }

    static String bytesOf(DeltaHistory x, boolean aside) {
        StringBuilder told = new StringBuilder();
        int size = x.size(aside);
        for (int k = 0; k < size; k++) {
            told.append(k == 0 ? "" : " ").append(x.at(k, aside));
        }
        return told.toString();
    }

    static String nameOf(DeltaHistory x, int revision) {
        StringBuilder told = new StringBuilder();
        int numbers = x.about(revision, 3);
        for (int k = 0; k < numbers; k++) {
            told.append(k == 0 ? "" : ".").append(x.name(revision, k));
        }
        return told.toString();
    }

    static String stepsOf(DeltaHistory x) {
        StringBuilder told = new StringBuilder();
        for (int k = 0; x.step(k, 0) != NONE; k++) {
            told.append('(').append(x.step(k, 0));
            for (int what = 1; x.step(k, what) != NONE; what++) {
                told.append(' ').append(x.step(k, what));
            }
            told.append(')');
        }
        return told.toString();
    }

    /** Puts these lines on the desk by one call. */
    static void put(DeltaHistory x, int... lines) {
        int[] words = new int[3];
        for (int k = 0; k < lines.length; k++) {
            words[k / 4] = words[k / 4] << 8 | lines[k];
        }
        x.desk(words[0], words[1], words[2]);
    }

    /** Checks these lines in as user 0. */
    static int add(DeltaHistory x, int from, int... lines) {
        put(x, lines);
        if (from != NONE) {
            x.lock(0, from);
        }
        return x.checkIn(0, from);
    }

    static DeltaHistory withFirst(int... lines) {
        DeltaHistory x = new DeltaHistory();
        add(x, NONE, lines);
        return x;
    }

    /** Revisions without lines, each behind the first one checked in from what stands at its place. */
    static DeltaHistory withParents(int... parents) {
        DeltaHistory x = withFirst();
        for (int parent : parents) {
            add(x, parent);
        }
        return x;
    }

    /** So many revisions without lines, all on the trunk. */
    static DeltaHistory trunkOf(int count) {
        DeltaHistory x = withFirst();
        for (int k = 1; k < count; k++) {
            add(x, k - 1);
        }
        return x;
    }

    /** An object with this file of 5 .. 93 bytes, which load has not read yet. */
    static DeltaHistory withFile(int... bytes) {
        int count = Math.min(20, (bytes.length - 1) / 4);
        DeltaHistory x = new DeltaHistory();
        for (int k = bytes.length - 4 * count - 1; k > 0; k--) {
            x.insert(0, 1);
        }
        x.checkIn(0, NONE);
        for (int k = 1; k < count; k++) {
            x.lock(0, k - 1);
            x.checkIn(0, k - 1);
        }
        for (int k = 0; k < bytes.length; k++) {
            x.corrupt(k, bytes[k]);
        }
        return x;
    }

    static void loads(String what, int want, int... bytes) {
        due("load() of a file with " + what, want, () -> withFile(bytes).load());
    }

    /**
     * 19 revisions in 389 bytes, revision 0 locked by user 0, and a desk's text with which the file of 20 would
     * have so many bytes, 400 .. 405.
     */
    static DeltaHistory nearlyFull(int size) {
        DeltaHistory x = withFirst(TWELVE);
        add(x, 0, TWELVE);
        for (int k = 0; k < 16; k++) {
            add(x, 0, OTHER_TWELVE);
        }
        add(x, 0, 41, 42, 43, 44, 45, 46);
        x.lock(0, 0);
        put(x, 1, 2, 3, 4, 5, 6);
        for (int k = 399; k < size; k++) {
            x.insert(6, 60);
        }
        return x;
    }

    /** 20 revisions in 400 bytes; none is locked. */
    static DeltaHistory full() {
        DeltaHistory x = nearlyFull(400);
        x.checkIn(0, 0);
        return x;
    }

    /**
     * Two revisions, the first locked by user 1, a desk's text, a delta that was made, bytes aside, a crash that is
     * set, and a file that is not what would be written.
     */
    static DeltaHistory withAll() {
        DeltaHistory x = withFirst(1, 2, 3);
        add(x, 0, 1, 3);
        x.lock(1, 0);
        put(x, 4, 3);
        x.compare(0);
        x.crashAfter(3);
        x.lock(2, 1);
        x.crashAfter(5);
        x.corrupt(2, 3);
        return x;
    }

    static Object corrupted(DeltaHistory x, int k, int b) {
        x.corrupt(k, b);
        return bytesOf(x, false);
    }

    static int[] range(int first, int last) {
        int[] numbers = new int[last - first + 1];
        for (int k = 0; k < numbers.length; k++) {
            numbers[k] = first + k;
        }
        return numbers;
    }
}
