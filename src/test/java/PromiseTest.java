/** Each promise by itself: ordinary inputs, the edges that the document names, and wrong inputs. */
public final class PromiseTest {
    private static final Checks CHECKS = new Checks();
    private static final String OUT = "throws.IndexOutOfBoundsException";
    private static final String STATE = "throws.IllegalStateException";
    private static final String ARGUMENT = "throws.IllegalArgumentException";
    private static final String UNSUPPORTED = "throws.UnsupportedOperationException";
    private static final int LOW = Integer.MIN_VALUE;
    private static final int HIGH = Integer.MAX_VALUE;

    public static void main(String[] args) {
        newObject();
        desk();
        insert();
        removeAndLine();
        lock();
        unlock();
        checkIn();
        checkInOrderOfExceptions();
        checkInLimits();
        checkOut();
        crashes();
        crashIsKeptByWhatThrows();
        corrupt();
        load();
        namesAndBranches();
        deepNames();
        root();
        compareAndStep();
        sizeAndAt();
        CHECKS.end();
    }

    private static void due(String what, Object want, java.util.concurrent.Callable<?> call) {
        CHECKS.due(what, want, call);
    }

    private static String deskOf(DeltaHistory x) {
        StringBuilder told = new StringBuilder();
        for (int k = 0; k < x.lines(); k++) {
            told.append(k == 0 ? "" : " ").append(x.line(k));
        }
        return told.toString();
    }

    private static String bytesOf(DeltaHistory x, boolean aside) {
        return bytesOf(x, aside, x.size(aside));
    }

    private static String bytesOf(DeltaHistory x, boolean aside, int count) {
        StringBuilder told = new StringBuilder();
        for (int k = 0; k < count; k++) {
            told.append(k == 0 ? "" : " ").append(x.at(k, aside));
        }
        return told.toString();
    }

    private static String nameOf(DeltaHistory x, int revision) {
        StringBuilder told = new StringBuilder();
        for (int k = 0; k < x.about(revision, 3); k++) {
            told.append(k == 0 ? "" : ".").append(x.name(revision, k));
        }
        return told.toString();
    }

    private static String stepsOf(DeltaHistory x, int steps) {
        StringBuilder told = new StringBuilder();
        for (int k = 0; k < steps; k++) {
            told.append('(');
            for (int what = 0; x.step(k, what) != -1; what++) {
                told.append(what == 0 ? "" : " ").append(x.step(k, what));
            }
            told.append(')');
        }
        return told.toString();
    }

    /** One call alone, since an object is good for 512. */
    private static void put(DeltaHistory x, int... lines) {
        int[] words = new int[3];
        for (int k = 0; k < lines.length; k++) {
            words[k / 4] = words[k / 4] << 8 | lines[k];
        }
        x.desk(words[0], words[1], words[2]);
    }

    /** Checks the desk's text in as user 0. */
    private static int add(DeltaHistory x, int from) {
        if (from != -1) {
            x.lock(0, from);
        }
        return x.checkIn(0, from);
    }

    private static DeltaHistory withFirst(int... lines) {
        DeltaHistory x = new DeltaHistory();
        put(x, lines);
        add(x, -1);
        return x;
    }

    private static void newObject() {
        DeltaHistory x = new DeltaHistory();
        due("new: revisions()", 0, x::revisions);
        due("new: lines()", 0, x::lines);
        due("new: the file", "0", () -> bytesOf(x, false));
        due("new: aside", 0, () -> x.size(true));
        due("new: step(0, 0)", -1, () -> x.step(0, 0));
        due("new: load()", 0, x::load);
        due("new: checkIn without crash", 0, () -> x.checkIn(0, -1));
    }

    private static void desk() {
        DeltaHistory x = new DeltaHistory();
        due("desk, twelve", true, () -> x.desk(0x01020304, 0x05060708, 0x090a0b63));
        due("twelve lines", "1 2 3 4 5 6 7 8 9 10 11 99", () -> deskOf(x));
        due("desk, zeros between", true, () -> x.desk(0x00010002, 0, 0x63000000));
        due("zeros between", "1 2 99", () -> deskOf(x));
        due("desk, 100", false, () -> x.desk(5, 5, 100));
        due("desk, 100 highest", false, () -> x.desk(0x64000000, 0, 0));
        due("desk, 255", false, () -> x.desk(-1, 0, 0));
        due("desk, 128", false, () -> x.desk(1, LOW, 1));
        due("refused: unchanged", "1 2 99", () -> deskOf(x));
        due("desk, none", true, () -> x.desk(0, 0, 0));
        due("none", 0, x::lines);
    }

    private static void insert() {
        DeltaHistory x = new DeltaHistory();
        due("insert(1, 1) into none", false, () -> x.insert(1, 1));
        due("insert(0, 1)", true, () -> x.insert(0, 1));
        due("insert(1, 99)", true, () -> x.insert(1, 99));
        due("insert(1, 50)", true, () -> x.insert(1, 50));
        due("insert(0, 2)", true, () -> x.insert(0, 2));
        for (int line : new int[] {0, 100, -1, LOW, HIGH}) {
            due("insert(0, " + line + ")", false, () -> x.insert(0, line));
        }
        for (int before : new int[] {5, -1, LOW, HIGH}) {
            due("insert(" + before + ", 1)", false, () -> x.insert(before, 1));
        }
        due("inserted", "2 1 50 99", () -> deskOf(x));
        for (int k = 0; k < 8; k++) {
            due("insert(4, 7)", true, () -> x.insert(4, 7));
        }
        due("thirteenth", false, () -> x.insert(0, 1));
        due("thirteenth at the end", false, () -> x.insert(12, 1));
        due("twelve", 12, x::lines);
    }

    private static void removeAndLine() {
        DeltaHistory x = new DeltaHistory();
        due("remove from none", -1, () -> x.remove(0));
        put(x, 1, 2, 3, 4, 5, 6, 7, 8, 9, 10, 11, 12);
        for (int k : new int[] {12, -1, LOW, HIGH}) {
            due("remove(" + k + ")", -1, () -> x.remove(k));
            due("line(" + k + ")", -1, () -> x.line(k));
        }
        due("remove the last", 12, () -> x.remove(11));
        due("remove the first", 1, () -> x.remove(0));
        due("remove within", 4, () -> x.remove(2));
        due("line(2)", 5, () -> x.line(2));
        due("line behind the last", -1, () -> x.line(9));
        due("lines()", 9, x::lines);
        due("left", "2 3 5 6 7 8 9 10 11", () -> deskOf(x));
    }

    private static void lock() {
        DeltaHistory x = withFirst(1, 2);
        for (int wrong : new int[] {-1, 4, LOW, HIGH}) {
            due("lock(" + wrong + ", 0)", OUT, () -> x.lock(wrong, 0));
        }
        for (int wrong : new int[] {-1, 1, LOW, HIGH}) {
            due("lock(0, " + wrong + ")", OUT, () -> x.lock(0, wrong));
        }
        due("lock(3, 0)", 7, () -> x.lock(3, 0));
        due("its lock", 3, () -> x.about(0, 2));
        due("the file", "1 0 0 4 2 1 2", () -> bytesOf(x, false));
        due("lock again", STATE, () -> x.lock(3, 0));
        due("lock by another", STATE, () -> x.lock(1, 0));
        due("wrong user before locked", OUT, () -> x.lock(4, 0));
        due("the file is the same", "1 0 0 4 2 1 2", () -> bytesOf(x, false));
    }

    private static void unlock() {
        DeltaHistory x = withFirst();
        due("unlock what is not locked", STATE, () -> x.unlock(0, 0));
        x.lock(2, 0);
        due("unlock by another", STATE, () -> x.unlock(1, 0));
        for (int wrong : new int[] {-1, 4, LOW, HIGH}) {
            due("unlock(" + wrong + ", 0)", OUT, () -> x.unlock(wrong, 0));
        }
        for (int wrong : new int[] {-1, 1, LOW, HIGH}) {
            due("unlock(2, " + wrong + ")", OUT, () -> x.unlock(2, wrong));
        }
        due("unlock(2, 0)", 5, () -> x.unlock(2, 0));
        due("no lock", -1, () -> x.about(0, 2));
        due("the file", "1 0 0 0 0", () -> bytesOf(x, false));
        DeltaHistory y = withFirst();
        due("unlock(-1, 0) where none is locked", OUT, () -> y.unlock(-1, 0));
    }

    private static void checkIn() {
        DeltaHistory x = new DeltaHistory();
        put(x, 1, 2, 3, 4, 5);
        due("checkIn(0, 0) first", OUT, () -> x.checkIn(0, 0));
        due("the first", 0, () -> x.checkIn(2, -1));
        due("its file", "1 0 2 0 5 1 2 3 4 5", () -> bytesOf(x, false));
        due("from NONE again", OUT, () -> x.checkIn(0, -1));
        x.lock(1, 0);
        put(x, 2, 9, 3, 4, 5);
        due("by who has not locked it", STATE, () -> x.checkIn(2, 0));
        due("the second", 1, () -> x.checkIn(1, 0));
        due("its file", "2 0 2 0 1 1 0 2 1 0 1 1 0 1 1 5 2 9 3 4 5", () -> bytesOf(x, false));
        due("not locked any more", -1, () -> x.about(0, 2));
        due("not locked, so not checked in", STATE, () -> x.checkIn(1, 0));
        x.lock(3, 0);
        x.lock(0, 1);
        put(x, 1, 5, 5);
        due("a branch", 2, () -> x.checkIn(3, 0));
        due("the branch from its parent", "3 0 2 0 1 1 1 1 3 0 2 1 0 1 1 0 1 1 5 2 9 3 4 5 2 0 1 3 1 5 1 5",
            () -> bytesOf(x, false));
        due("another's lock stays", 0, () -> x.about(1, 2));
        x.remove(0);
        due("what is checked in is no longer the desk's", 3, () -> x.checkOut(2));
    }

    private static void checkInOrderOfExceptions() {
        DeltaHistory x = withFirst();
        for (int k = 0; k < 19; k++) {
            add(x, k);
        }
        due("twenty", 20, x::revisions);
        String file = bytesOf(x, false);
        due("no such user, no such revision", OUT, () -> x.checkIn(4, 20));
        due("no such user", OUT, () -> x.checkIn(-1, 19));
        due("no such revision", OUT, () -> x.checkIn(0, 20));
        due("NONE", OUT, () -> x.checkIn(0, -1));
        due("not locked before too many", STATE, () -> x.checkIn(0, 19));
        x.lock(1, 19);
        due("locked by another before too many", STATE, () -> x.checkIn(0, 19));
        due("the twenty first", UNSUPPORTED, () -> x.checkIn(1, 19));
        due("its lock stays", 1, () -> x.about(19, 2));
        x.unlock(1, 19);
        due("the file stays", file, () -> bytesOf(x, false));
        due("all twenty load", 20, x::load);
    }

    private static void checkInLimits() {
        DeltaHistory x = withFirst(1, 2, 3, 4, 5, 6, 7, 8, 9, 10, 11, 12);
        add(x, 0);
        // Each of these branches has 3 + 1 + 3 + 3 + 12 bytes, with twelve other lines.
        int before = x.size(false);
        due("the size of two", 1 + 6 + 1 + 13, () -> before);
        for (int k = 0; k < 17; k++) {
            put(x, 21, 22, 23, 24, 25, 26, 27, 28, 29, 30, 31, 32);
            add(x, 0);
        }
        due("the size of nineteen", 21 + 17 * 22, () -> x.size(false));
        x.lock(0, 0);
        put(x, 1, 2, 3, 4, 5, 6, 7, 8, 9, 10, 11, 12);
        due("with 399", 399, () -> {
            x.checkIn(0, 0);
            return x.size(false);
        });
        fileOfExactly(400, true);
        fileOfExactly(401, false);
    }

    /** Branches of 22 bytes, then a last one whose size makes up what is missing. */
    private static void fileOfExactly(int size, boolean fits) {
        DeltaHistory x = withFirst(1, 2, 3, 4, 5, 6, 7, 8, 9, 10, 11, 12);
        add(x, 0);
        for (int k = 0; k < 16; k++) {
            put(x, 21, 22, 23, 24, 25, 26, 27, 28, 29, 30, 31, 32);
            add(x, 0);
        }
        put(x, 41, 42, 43, 44, 45, 46);
        add(x, 0);
        due("filled up to", 21 + 16 * 22 + 16, () -> x.size(false));
        put(x, 1, 2, 3, 4, 5, 6);
        for (int k = x.size(false) + 3 + 1 + 3; k < size - 3; k++) {
            x.insert(6, 60);
        }
        x.lock(0, 0);
        String heads = bytesOf(x, false, 1 + 3 * 19);
        int before = x.size(false);
        x.crashAfter(1);
        if (fits) {
            x.crashAfter(-1);
            due("checkIn up to " + size, 19, () -> x.checkIn(0, 0));
            due("its size", size, () -> x.size(false));
            due("its load", 20, x::load);
            return;
        }
        due("checkIn up to " + size, UNSUPPORTED, () -> x.checkIn(0, 0));
        due("revisions()", 19, x::revisions);
        due("its lock stays", 0, () -> x.about(0, 2));
        due("its file stays", heads, () -> bytesOf(x, false, 1 + 3 * 19));
        due("its size stays", before, () -> x.size(false));
        due("nothing aside", 0, () -> x.size(true));
        due("its branches stay", 17, () -> x.about(0, 5));
        due("its crash stays", -2, () -> x.unlock(0, 0));
    }

    private static void checkOut() {
        DeltaHistory x = withFirst(1, 2);
        put(x, 3);
        add(x, 0);
        put(x);
        add(x, 1);
        due("checkOut(0)", 2, () -> x.checkOut(0));
        due("its text", "1 2", () -> deskOf(x));
        due("checkOut(2)", 0, () -> x.checkOut(2));
        due("no text", "", () -> deskOf(x));
        due("checkOut(1)", 1, () -> x.checkOut(1));
        for (int wrong : new int[] {-1, 3, LOW, HIGH}) {
            due("checkOut(" + wrong + ")", OUT, () -> x.checkOut(wrong));
        }
        due("the desk stays", "3", () -> deskOf(x));
        x.insert(0, 9);
        x.checkOut(1);
        due("the desk's line is not the revision's", "3", () -> deskOf(x));
    }

    private static void crashes() {
        DeltaHistory x = withFirst(7, 8);
        due("crashAfter(-2)", false, () -> x.crashAfter(-2));
        due("crashAfter(LOW)", false, () -> x.crashAfter(LOW));
        due("crashAfter(0)", true, () -> x.crashAfter(0));
        due("at once", -2, () -> x.lock(1, 0));
        due("nothing aside", 0, () -> x.size(true));
        due("not locked", -1, () -> x.about(0, 2));
        x.crashAfter(4);
        due("in the midst", -2, () -> x.lock(1, 0));
        due("the beginning", "1 0 0 2", () -> bytesOf(x, true));
        due("the file as it was", "1 0 0 0 2 7 8", () -> bytesOf(x, false));
        x.crashAfter(0);
        due("at once again", -2, () -> x.lock(1, 0));
        due("aside was emptied", 0, () -> x.size(true));
        x.crashAfter(7);
        due("behind the last byte", -2, () -> x.lock(1, 0));
        due("all aside", "1 0 0 2 2 7 8", () -> bytesOf(x, true));
        due("still not locked", -1, () -> x.about(0, 2));
        x.crashAfter(8);
        due("when all is done", -2, () -> x.lock(1, 0));
        due("locked", 1, () -> x.about(0, 2));
        due("aside is empty", 0, () -> x.size(true));
        x.crashAfter(9);
        due("no crash", 7, () -> x.unlock(1, 0));
        due("none is set any more", 7, () -> x.lock(1, 0));
        x.crashAfter(HIGH);
        due("no crash, far", 7, () -> x.unlock(1, 0));
        x.crashAfter(2);
        due("in place of one", true, () -> x.crashAfter(-1));
        due("none", 7, () -> x.lock(1, 0));
        crashedCheckIn(x);
    }

    /** Revision 0 is locked by user 1. */
    private static void crashedCheckIn(DeltaHistory x) {
        put(x, 8);
        x.crashAfter(5);
        due("crashed", -2, () -> x.checkIn(1, 0));
        due("one revision", 1, x::revisions);
        due("without next", -1, () -> x.about(0, 4));
        due("still locked", 1, () -> x.about(0, 2));
        due("aside", "2 0 0 0 1", () -> bytesOf(x, true));
        x.corrupt(1, 9);
        due("load() leaves aside", -1, x::load);
        due("aside still", "2 0 0 0 1", () -> bytesOf(x, true));
        x.crashAfter(15);
        due("done, and crashed", -2, () -> x.checkIn(1, 0));
        due("two revisions", 2, x::revisions);
        due("the file", "2 0 0 0 1 1 0 1 1 0 1 7 1 8", () -> bytesOf(x, false));
    }

    private static void crashIsKeptByWhatThrows() {
        DeltaHistory x = withFirst(7);
        x.crashAfter(3);
        due("refused", false, () -> x.crashAfter(-2));
        due("throws", OUT, () -> x.lock(4, 0));
        due("throws", STATE, () -> x.unlock(0, 0));
        due("throws", STATE, () -> x.checkIn(0, 0));
        due("load", 1, x::load);
        due("checkOut", 1, () -> x.checkOut(0));
        x.corrupt(3, 2);
        due("corrupt meets no crash", 2, () -> x.at(3, false));
        due("then crashes", -2, () -> x.lock(0, 0));
        due("then not", 6, () -> x.lock(0, 0));
    }

    private static void corrupt() {
        DeltaHistory x = withFirst(5);
        for (int wrong : new int[] {-1, 6, LOW, HIGH}) {
            due("corrupt(" + wrong + ", 0)", OUT, () -> corrupted(x, wrong, 0));
            due("corrupt(" + wrong + ", 256)", OUT, () -> corrupted(x, wrong, 256));
        }
        for (int wrong : new int[] {-1, 256, LOW, HIGH}) {
            due("corrupt(5, " + wrong + ")", ARGUMENT, () -> corrupted(x, 5, wrong));
        }
        due("the file stays", "1 0 0 0 1 5", () -> bytesOf(x, false));
        due("corrupt(5, 255)", "1 0 0 0 1 255", () -> corrupted(x, 5, 255));
        due("corrupt(0, 0)", "0 0 0 0 1 255", () -> corrupted(x, 0, 0));
        due("the revisions stay", 1, x::revisions);
        x.checkOut(0);
        due("and their texts", "5", () -> deskOf(x));
        due("a change writes all", 6, () -> x.lock(0, 0));
        due("anew", "1 0 0 1 1 5", () -> bytesOf(x, false));
    }

    private static String corrupted(DeltaHistory x, int k, int b) {
        x.corrupt(k, b);
        return bytesOf(x, false);
    }

    private static int loaded(DeltaHistory x, int... at) {
        int[] was = new int[at.length];
        for (int k = 0; k < at.length; k += 2) {
            was[k] = x.at(at[k], false);
            x.corrupt(at[k], at[k + 1]);
        }
        int answer = x.load();
        for (int k = 0; k < at.length; k += 2) {
            x.corrupt(at[k], was[k]);
        }
        x.load();
        return answer;
    }

    private static void load() {
        DeltaHistory none = new DeltaHistory();
        none.corrupt(0, 1);
        due("1 alone", -1, none::load);
        due("still none", 0, none::revisions);
        DeltaHistory x = withFirst(1, 2, 3);
        put(x, 1, 3);
        add(x, 0);
        due("the file", "2 0 0 0 1 0 0 1 1 1 1 2 2 1 3", () -> bytesOf(x, false));
        due("itself", 2, () -> loaded(x));
        due("count 0", -1, () -> loaded(x, 0, 0));
        due("count 1", -1, () -> loaded(x, 0, 1));
        due("count 21", -1, () -> loaded(x, 0, 21));
        due("count 255", -1, () -> loaded(x, 0, 255));
        due("a parent of the first", -1, () -> loaded(x, 1, 1));
        due("no parent of the second", -1, () -> loaded(x, 4, 0));
        due("itself as parent", -1, () -> loaded(x, 4, 2));
        due("user 3", 2, () -> loaded(x, 2, 3));
        due("user 4", -1, () -> loaded(x, 2, 4));
        due("lock 4", 2, () -> loaded(x, 6, 4));
        due("lock 5", -1, () -> loaded(x, 6, 5));
        due("another line added", 2, () -> loaded(x, 11, 99));
        due("line 100", -1, () -> loaded(x, 11, 100));
        due("line 0", -1, () -> loaded(x, 11, 0));
        due("the line before once more", 2, () -> loaded(x, 11, 1));
        due("the line behind once more, which is added too early", -1, () -> loaded(x, 11, 3));
        due("added at the end", 2, () -> loaded(x, 9, 2));
        due("added behind the end", -1, () -> loaded(x, 9, 3));
        due("no such step", -1, () -> loaded(x, 8, 2));
        due("left out, and too long", -1, () -> loaded(x, 8, 0));
        due("two steps", -1, () -> loaded(x, 7, 2));
        due("two added, and a head of one line", 2, () -> loaded(x, 10, 2));
        due("three added, and a head that is cut off", -1, () -> loaded(x, 10, 3));
        due("none added", -1, () -> loaded(x, 10, 0));
        due("one line of the head", -1, () -> loaded(x, 12, 1));
        due("three lines of the head", -1, () -> loaded(x, 12, 3));
        x.corrupt(11, 50);
        x.corrupt(6, 3);
        put(x, 88);
        x.crashAfter(1);
        due("what is read", 2, x::load);
        due("the desk stays", "88", () -> deskOf(x));
        due("the crash stays", -2, () -> x.unlock(2, 1));
        x.checkOut(0);
        due("is in force", "1 50 3", () -> deskOf(x));
    }

    private static void namesAndBranches() {
        DeltaHistory x = withFirst();
        int[] from = {0, 0, 0, 2, 2, 1, 4, 5};
        for (int parent : from) {
            add(x, parent);
        }
        String[] names = {"1.1", "1.2", "1.1.1.1", "1.1.2.1", "1.1.1.2", "1.1.1.1.1.1", "1.3", "1.1.1.3",
            "1.1.1.1.1.2"};
        int[] next = {1, 6, 4, -1, 7, 8, -1, -1, -1};
        int[] branches = {2, 0, 1, 0, 0, 0, 0, 0, 0};
        for (int k = 0; k < names.length; k++) {
            int r = k;
            due("the name of " + r, names[r], () -> nameOf(x, r));
            due("its length", (names[r].length() + 1) / 2, () -> x.about(r, 3));
            due("the parent of " + r, r == 0 ? -1 : from[r - 1], () -> x.about(r, 0));
            due("the next of " + r, next[r], () -> x.about(r, 4));
            due("the branches of " + r, branches[r], () -> x.about(r, 5));
            due("behind its name", 0, () -> x.name(r, x.about(r, 3)));
        }
        for (int wrong : new int[] {-1, 9, LOW, HIGH}) {
            due("about(" + wrong + ", 0)", OUT, () -> x.about(wrong, 0));
            due("about(" + wrong + ", 9)", OUT, () -> x.about(wrong, 9));
            due("name(" + wrong + ", 0)", OUT, () -> x.name(wrong, 0));
        }
        for (int wrong : new int[] {-1, 6, LOW, HIGH}) {
            due("about(0, " + wrong + ")", -1, () -> x.about(0, wrong));
            due("name(0, " + wrong + ")", 0, () -> x.name(0, wrong));
        }
        x.lock(3, 8);
        due("a user", 0, () -> x.about(8, 1));
        due("a lock", 3, () -> x.about(8, 2));
        x.checkIn(3, 8);
        due("another user", 3, () -> x.about(9, 1));
        due("load()", 10, x::load);
        due("the name of one loaded", "1.1.1.1.1.2", () -> nameOf(x, 8));
    }

    private static void deepNames() {
        DeltaHistory x = withFirst();
        for (int k = 0; k < 18; k++) {
            add(x, k / 2 * 2);
        }
        due("the deepest name", "1.1" + ".1.1".repeat(9), () -> nameOf(x, 18));
        due("beside it", "1.1" + ".1.1".repeat(7) + ".1.2", () -> nameOf(x, 17));
    }

    private static void root() {
        DeltaHistory x = withFirst();
        int[] from = {0, 0, 2, 1, 2, 5};
        for (int parent : from) {
            add(x, parent);
        }
        int[][] wants = {{0, 0, 0}, {0, 6, 0}, {4, 1, 1}, {1, 4, 1}, {3, 6, 2}, {6, 5, 5}, {4, 6, 0}, {6, 6, 6}};
        for (int[] want : wants) {
            due("root(" + want[0] + ", " + want[1] + ")", want[2], () -> x.root(want[0], want[1]));
        }
        for (int wrong : new int[] {-1, 7, LOW, HIGH}) {
            due("root(" + wrong + ", 0)", OUT, () -> x.root(wrong, 0));
            due("root(0, " + wrong + ")", OUT, () -> x.root(0, wrong));
            due("root(" + wrong + ", " + wrong + ")", OUT, () -> x.root(wrong, wrong));
        }
    }

    private static void deltaIs(int[] a, int[] b, int count, String steps) {
        DeltaHistory x = withFirst(a);
        put(x, b);
        due("compare(0)", count, () -> x.compare(0));
        due("its steps", steps, () -> stepsOf(x, count));
    }

    private static void compareAndStep() {
        deltaIs(new int[] {}, new int[] {}, 0, "");
        deltaIs(new int[] {1, 2}, new int[] {}, 1, "(0 0 2)");
        deltaIs(new int[] {1, 2}, new int[] {3, 4}, 2, "(0 0 2)(1 2 2 3 4)");
        deltaIs(new int[] {1, 2}, new int[] {2, 1}, 2, "(0 0 1)(1 2 1 1)");
        deltaIs(new int[] {1, 2, 3}, new int[] {3, 1, 2}, 2, "(1 0 1 3)(0 2 1)");
        deltaIs(new int[] {1, 5, 2}, new int[] {1, 6, 2, 7}, 3, "(0 1 1)(1 2 1 6)(1 3 1 7)");
        deltaIs(new int[] {1, 1, 2}, new int[] {1, 2}, 1, "(0 1 1)");
        deltaIs(new int[] {9, 1, 9, 2, 9}, new int[] {1, 2}, 3, "(0 0 1)(0 2 1)(0 4 1)");
        DeltaHistory x = withFirst(1, 2, 3);
        put(x, 4, 3);
        due("compare(NONE)", 1, () -> x.compare(-1));
        due("adds all", "(1 0 2 4 3)", () -> stepsOf(x, 1));
        for (int wrong : new int[] {-2, 1, LOW, HIGH}) {
            due("compare(" + wrong + ")", OUT, () -> x.compare(wrong));
        }
        put(x, 50, 51, 52);
        x.lock(0, 0);
        x.checkIn(0, 0);
        due("made last", "(1 0 2 4 3)", () -> stepsOf(x, 1));
        due("step(0, 5)", -1, () -> x.step(0, 5));
        due("compare(0)", 2, () -> x.compare(0));
        for (int wrong : new int[] {-1, 2, LOW, HIGH}) {
            due("step(" + wrong + ", 0)", -1, () -> x.step(wrong, 0));
        }
        for (int wrong : new int[] {-1, 3, LOW, LOW + 3, HIGH}) {
            due("step(0, " + wrong + ")", -1, () -> x.step(0, wrong));
        }
        due("step(1, 5)", 52, () -> x.step(1, 5));
        due("step(1, 6)", -1, () -> x.step(1, 6));
        DeltaHistory none = new DeltaHistory();
        due("compare(NONE) of none", 0, () -> none.compare(-1));
        due("compare(0) without revisions", OUT, () -> none.compare(0));
    }

    private static void sizeAndAt() {
        DeltaHistory x = withFirst(6);
        x.crashAfter(2);
        x.lock(0, 0);
        due("size(false)", 6, () -> x.size(false));
        due("size(true)", 2, () -> x.size(true));
        due("at(5, false)", 6, () -> x.at(5, false));
        due("at(0, true)", 1, () -> x.at(0, true));
        for (int wrong : new int[] {-1, 6, 400, LOW, HIGH}) {
            due("at(" + wrong + ", false)", -1, () -> x.at(wrong, false));
        }
        for (int wrong : new int[] {-1, 2, 5, LOW, HIGH}) {
            due("at(" + wrong + ", true)", -1, () -> x.at(wrong, true));
        }
    }
}
