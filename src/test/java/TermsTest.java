import java.util.ArrayList;
import java.util.Arrays;
import java.util.List;
import java.util.Random;
import java.util.function.Function;

/** The document's sentences before its promises, each with the edges that it names. */
public final class TermsTest extends Sentences {
    public static void main(String[] args) {
        keptInOneFile();
        usersLockAndCheckIn();
        cutOffAtAnyByte();
        calls();
        lines();
        texts();
        deskAtFirst();
        users();
        revisions();
        eachHas();
        parent();
        locks();
        firstName();
        next();
        branch();
        branchesOfBranches();
        trunkAndHead();
        deltaFromOneToTheOther();
        mostInCommon();
        equalLines();
        leftOut();
        added();
        untilNoneAreLeft();
        oneStepOfWhatIsLeftOut();
        oneStepOfWhatIsAdded();
        mostSteps();
        fileOfAtMost400();
        fileHeads();
        fileBodies();
        fileWithoutRevisions();
        whatIsAChange();
        whatThrowsWritesNothing();
        asideIsEmptiedBefore();
        asideBecomesTheFile();
        crashAtEachByte();
        crashOfAFullFile();
        noneIsSetAnyMore();
        throwingChangesNothing();
        firstNamedIsThrown();
        crashedIsMinusTwo();
        CHECKS.end();
    }

    private static void keptInOneFile() {
        says("Keeps the revisions of a text of lines in one file: the newest one of the trunk whole, older ones and"
            + " those of branches as what has to be left out and added");
        DeltaHistory x = withFirst(1, 2, 3);
        add(x, 0, 1, 3, 4);
        add(x, 0, 1, 2, 3, 5);
        add(x, 1, 3, 4);
        due("the file", "4 0 0 0 1 0 0 1 0 0 2 0 0" + " 2 1 1 1 2 0 2 1" + " 1 1 0 1 1" + " 1 1 3 1 5" + " 2 3 4",
            () -> bytesOf(x, false));
        String[] texts = {"1 2 3", "1 3 4", "1 2 3 5", "3 4"};
        DeltaHistory y = withFile(bytes(bytesOf(x, false)));
        due("another object that has this file alone", 4, y::load);
        for (int r = 0; r < 4; r++) {
            int each = r;
            due("the text of " + each, texts[each], () -> textOf(x, each));
            due("the other's text of " + each, texts[each], () -> textOf(y, each));
        }
    }

    private static int[] bytes(String told) {
        return Arrays.stream(told.split(" ")).mapToInt(Integer::parseInt).toArray();
    }

    private static void usersLockAndCheckIn() {
        says("users lock revisions and check new ones in");
        DeltaHistory x = withFirst();
        for (int user = 0; user < 4; user++) {
            int each = user;
            put(x, 10 + each);
            due("lock of user " + each, 5 + 8 * each, () -> x.lock(each, 0));
            due("checkIn of user " + each, each + 1, () -> x.checkIn(each, 0));
            due("who checked it in", each, () -> x.about(each + 1, 1));
            due("its text", String.valueOf(10 + each), () -> textOf(x, each + 1));
        }
    }

    /** Whatever the byte, the file is the old one or the new one, and load finds the revisions that it tells. */
    private static void cutOffAtAnyByte() {
        says("every change is written to a file aside, which may be cut off by a crash at any byte, and then takes the"
            + " file's place at once");
        cutOff("lock", x -> x.lock(3, 1));
        cutOff("unlock", x -> x.unlock(1, 0));
        cutOff("checkIn", x -> x.checkIn(1, 0));
    }

    private static DeltaHistory beforeCutOff() {
        DeltaHistory x = withFirst(1, 2, 3);
        add(x, 0, 1, 3);
        x.lock(1, 0);
        put(x, 9, 3);
        return x;
    }

    private static void cutOff(String what, Function<DeltaHistory, Integer> change) {
        DeltaHistory done = beforeCutOff();
        String before = bytesOf(done, false);
        change.apply(done);
        String after = bytesOf(done, false);
        int size = done.size(false);
        for (int n = 0; n <= size + 2; n++) {
            DeltaHistory x = beforeCutOff();
            x.crashAfter(n);
            change.apply(x);
            String of = what + ", crash after " + n;
            String file = n <= size ? before : after;
            int count = n <= size ? 2 : done.revisions();
            due(of + ": the file", file, () -> bytesOf(x, false));
            due(of + ": revisions()", count, x::revisions);
            due(of + ": load()", count, x::load);
        }
    }

    private static void calls() {
        says("An object is used for at most 512 calls after it has been made");
        DeltaHistory x = new DeltaHistory();
        due("call 1", 0, () -> x.checkIn(0, NONE));
        for (int call = 2; call < 512; call++) {
            boolean locks = call % 2 == 0;
            due("call " + call, 5, () -> locks ? x.lock(3, 0) : x.unlock(3, 0));
        }
        due("call 512", NONE, () -> x.about(0, 2));
    }

    private static void lines() {
        says("LINES are numbers 1 .. 99");
        DeltaHistory x = new DeltaHistory();
        due("desk(1, 99, 0)", true, () -> x.desk(1, 99, 0));
        due("the desk's text", "1 99", () -> deskOf(x));
        due("desk(100, 0, 0)", false, () -> x.desk(100, 0, 0));
        due("insert(0, 1)", true, () -> x.insert(0, 1));
        due("insert(0, 99)", true, () -> x.insert(0, 99));
        due("insert(0, 0)", false, () -> x.insert(0, 0));
        due("insert(0, 100)", false, () -> x.insert(0, 100));
        for (int line = 0; line < 256; line++) {
            boolean isLine = line >= 1 && line <= 99;
            loads("line " + line + " whole", isLine ? 1 : NONE, 1, 0, 0, 0, 1, line);
            loads("line " + line + " added", isLine ? 2 : NONE, 2, 0, 0, 0, 1, 0, 0, 1, 1, 0, 1, line, 0);
        }
    }

    private static void texts() {
        says("a TEXT is a row of at most 12 of them");
        DeltaHistory x = new DeltaHistory();
        due("desk of 12", true, () -> x.desk(0x01020304, 0x05060708, 0x090a0b0c));
        due("12 lines", "1 2 3 4 5 6 7 8 9 10 11 12", () -> deskOf(x));
        due("a thirteenth", false, () -> x.insert(12, 13));
        loads("12 lines", 1, 1, 0, 0, 0, 12, 1, 2, 3, 4, 5, 6, 7, 8, 9, 10, 11, 12);
        loads("13 lines", NONE, 1, 0, 0, 0, 13, 1, 2, 3, 4, 5, 6, 7, 8, 9, 10, 11, 12, 13);
        loads("12 lines of 11 and one that is added", 2,
            2, 0, 0, 0, 1, 0, 0, 1, 1, 11, 1, 60, 11, 1, 2, 3, 4, 5, 6, 7, 8, 9, 10, 11);
        loads("13 lines of 12 and one that is added behind them", NONE,
            2, 0, 0, 0, 1, 0, 0, 1, 1, 12, 1, 60, 12, 1, 2, 3, 4, 5, 6, 7, 8, 9, 10, 11, 12);
        loads("13 lines of 12 and one that is added before them", NONE,
            2, 0, 0, 0, 1, 0, 0, 1, 1, 0, 1, 60, 12, 1, 2, 3, 4, 5, 6, 7, 8, 9, 10, 11, 12);
        loads("12 lines of 12, one left out and one added", 2,
            2, 0, 0, 0, 1, 0, 0, 2, 0, 0, 1, 1, 1, 1, 60, 12, 1, 2, 3, 4, 5, 6, 7, 8, 9, 10, 11, 12);
        loads("12 lines added to none", 2,
            2, 0, 0, 0, 1, 0, 0, 1, 1, 0, 12, 1, 2, 3, 4, 5, 6, 7, 8, 9, 10, 11, 12, 0);
        loads("13 lines added to none", NONE,
            2, 0, 0, 0, 1, 0, 0, 1, 1, 0, 13, 1, 2, 3, 4, 5, 6, 7, 8, 9, 10, 11, 12, 13, 0);
    }

    private static void deskAtFirst() {
        says("The DESK has a text, at first none.");
        DeltaHistory x = new DeltaHistory();
        due("lines()", 0, x::lines);
        due("line(0)", NONE, () -> x.line(0));
        due("remove(0)", NONE, () -> x.remove(0));
        due("insert(1, 1)", false, () -> x.insert(1, 1));
        due("checkIn(0, NONE)", 0, () -> x.checkIn(0, NONE));
        due("the file", "1 0 0 0 0", () -> bytesOf(x, false));
    }

    private static void users() {
        says("USERS are 0 .. 3.");
        for (int user = 0; user < 4; user++) {
            int each = user;
            DeltaHistory x = new DeltaHistory();
            due("checkIn of user " + each, 0, () -> x.checkIn(each, NONE));
            due("its user", each, () -> x.about(0, 1));
            due("lock of user " + each, 5, () -> x.lock(each, 0));
            due("its lock", each, () -> x.about(0, 2));
            due("unlock of user " + each, 5, () -> x.unlock(each, 0));
        }
        for (int user : NO_USERS) {
            due("checkIn of user " + user, OUT, () -> new DeltaHistory().checkIn(user, NONE));
            due("lock of user " + user, OUT, () -> withFirst().lock(user, 0));
            due("unlock of user " + user, OUT, () -> withFirst().unlock(user, 0));
        }
        for (int b = 0; b < 256; b++) {
            loads("user " + b, b <= 3 ? 1 : NONE, 1, 0, b, 0, 0);
            loads("lock + 1 = " + b, b <= 4 ? 1 : NONE, 1, 0, 0, b, 0);
        }
    }

    private static void revisions() {
        says("REVISIONS are numbered 0, 1, .. as they are checked in, at most 20.");
        DeltaHistory x = new DeltaHistory();
        for (int k = 0; k < 20; k++) {
            int number = k;
            due("checked in", number, () -> add(x, number == 0 ? NONE : number / 2));
            due("revisions()", number + 1, x::revisions);
        }
        x.lock(0, 19);
        due("the twenty first", UNSUPPORTED, () -> x.checkIn(0, 19));
        due("revisions()", 20, x::revisions);
        loads("20 revisions", 20, emptyTrunk(20));
        loads("21 revisions", NONE, emptyTrunk(21));
    }

    /** The file of so many revisions without lines, each the next of the one before. */
    private static int[] emptyTrunk(int count) {
        int[] bytes = new int[1 + 4 * count];
        bytes[0] = count;
        for (int k = 0; k < count; k++) {
            bytes[1 + 3 * k] = k;
        }
        return bytes;
    }

    private static void eachHas() {
        says("Each has a text, a user, a PARENT (the first one none: -1), perhaps a LOCK (a user), and a NAME, a row of"
            + " numbers.");
        DeltaHistory x = new DeltaHistory();
        put(x, 1);
        x.checkIn(3, NONE);
        x.lock(2, 0);
        put(x, 1, 2);
        x.checkIn(2, 0);
        x.lock(0, 0);
        put(x);
        x.checkIn(0, 0);
        x.lock(1, 2);
        String[] texts = {"1", "1 2", ""};
        int[] users = {3, 2, 0};
        int[] parents = {NONE, 0, 0};
        int[] locks = {NONE, NONE, 1};
        String[] names = {"1.1", "1.2", "1.1.1.1"};
        for (int r = 0; r < 3; r++) {
            int each = r;
            due("the text of " + each, texts[each], () -> textOf(x, each));
            due("the user of " + each, users[each], () -> x.about(each, 1));
            due("the parent of " + each, parents[each], () -> x.about(each, 0));
            due("the lock of " + each, locks[each], () -> x.about(each, 2));
            due("the name of " + each, names[each], () -> nameOf(x, each));
        }
    }

    private static void parent() {
        says("a PARENT (the first one none: -1)");
        DeltaHistory x = withParents(0, 0, 2);
        int[] parents = {-1, 0, 0, 2};
        for (int r = 0; r < 4; r++) {
            int each = r;
            due("the parent of " + each, parents[each], () -> x.about(each, 0));
        }
        due("the file", "4 0 0 0 1 0 0 1 0 0 3 0 0 0 0 0 0", () -> bytesOf(x, false));
        loads("a parent of the first one", NONE, 1, 1, 0, 0, 0);
        loads("a second one without parent", NONE, 2, 0, 0, 0, 0, 0, 0, 0, 0);
        loads("a second one that is its own parent", NONE, 2, 0, 0, 0, 2, 0, 0, 0, 0);
        loads("a parent that comes later", NONE, 3, 0, 0, 0, 3, 0, 0, 1, 0, 0, 0, 0, 0);
        loads("a parent that there is not", NONE, 2, 0, 0, 0, 255, 0, 0, 0, 0);
    }

    private static void locks() {
        says("perhaps a LOCK (a user)");
        DeltaHistory x = withParents(0);
        due("without", NONE, () -> x.about(0, 2));
        x.lock(0, 0);
        x.lock(3, 1);
        due("of user 0", 0, () -> x.about(0, 2));
        due("of user 3", 3, () -> x.about(1, 2));
    }

    private static void firstName() {
        says("The first one's name is 1 1.");
        DeltaHistory x = withFirst();
        due("how many numbers", 2, () -> x.about(0, 3));
        due("number 0", 1, () -> x.name(0, 0));
        due("number 1", 1, () -> x.name(0, 1));
        due("number 2", 0, () -> x.name(0, 2));
    }

    private static void next() {
        says("A revision checked in from r is r's NEXT, if r has none: its name is r's with the last number greater"
            + " by 1.");
        DeltaHistory x = trunkOf(20);
        for (int r = 0; r < 20; r++) {
            int each = r;
            due("the name of " + each, "1." + (each + 1), () -> nameOf(x, each));
            due("the next of " + each, each == 19 ? NONE : each + 1, () -> x.about(each, 4));
            due("the branches of " + each, 0, () -> x.about(each, 5));
        }
        DeltaHistory y = withParents(0, 0, 2, 3);
        due("the last of a branch", "1.1.1.3", () -> nameOf(y, 4));
        due("its parent's next", 4, () -> y.about(3, 4));
        due("the second of a second branch", "1.1.2.2", () -> nameOf(withParents(0, 0, 0, 3), 4));
    }

    private static void branch() {
        says("If r has a next, it begins a BRANCH at r: its name is r's, then how many branches begin at r with this"
            + " one, then 1.");
        DeltaHistory x = withParents(new int[19]);
        due("the next", "1.2", () -> nameOf(x, 1));
        for (int r = 2; r < 20; r++) {
            int each = r;
            due("the name of " + each, "1.1." + (each - 1) + ".1", () -> nameOf(x, each));
            due("its next", NONE, () -> x.about(each, 4));
        }
        due("the branches of 0", 18, () -> x.about(0, 5));
        due("the next of 0", 1, () -> x.about(0, 4));
    }

    private static void branchesOfBranches() {
        says("its name is r's, then how many branches begin at r with this one, then 1");
        int[] parents = {0, 0, 0, 2, 2, 1, 4, 5};
        String[] names = {"1.1", "1.2", "1.1.1.1", "1.1.2.1", "1.1.1.2", "1.1.1.1.1.1", "1.3", "1.1.1.3",
            "1.1.1.1.1.2"};
        DeltaHistory x = withParents(parents);
        for (int r = 0; r < names.length; r++) {
            int each = r;
            due("the name of " + each, names[each], () -> nameOf(x, each));
        }
        x.lock(0, 8);
        for (int r = 0; r < names.length; r++) {
            int each = r;
            due("behind a change the name of " + each, names[each], () -> nameOf(x, each));
        }
        DeltaHistory y = withParents(0, 0, 0, 3, 4, 4, 4, 7, 7, 9);
        due("a branch of a second branch's second", "1.1.2.2.1.1", () -> nameOf(y, 6));
        due("the next of its second branch", "1.1.2.2.2.2", () -> nameOf(y, 8));
        due("the next of a branch there", "1.1.2.2.2.1.1.2", () -> nameOf(y, 10));
        DeltaHistory deep = withParents(0, 0, 2, 2, 4, 4, 6, 6, 8, 8, 10, 10, 12, 12, 14, 14, 16, 16, 18);
        due("the deepest name", "1.1" + ".1.1".repeat(9), () -> nameOf(deep, 18));
        due("behind it", "1.1" + ".1.1".repeat(8) + ".1.2", () -> nameOf(deep, 19));
        due("how many numbers it has", 20, () -> deep.about(18, 3));
    }

    private static void trunkAndHead() {
        says("The TRUNK is the first revision, its next, and so on; the last of these is the HEAD.");
        DeltaHistory x = withFirst(5);
        due("the first one is the head", "1 0 0 0 1 5", () -> bytesOf(x, false));
        add(x, 0, 6);
        due("its next is the head", "2 0 0 0 1 0 0 2 0 0 1 1 1 1 5 1 6", () -> bytesOf(x, false));
        add(x, 0, 7);
        due("a newer one of a branch is not", "3 0 0 0 1 0 0 1 0 0 2 0 0 1 1 1 1 5 1 6 2 0 0 1 1 1 1 7",
            () -> bytesOf(x, false));
        add(x, 2, 8);
        due("nor is its next",
            "4 0 0 0 1 0 0 1 0 0 3 0 0 2 0 0 1 1 1 1 5 1 6 2 0 0 1 1 1 1 7 2 0 0 1 1 1 1 8",
            () -> bytesOf(x, false));
    }

    private static void deltaIs(int[] a, int[] b, String steps) {
        DeltaHistory x = withFirst(a);
        put(x, b);
        due("compare(0)", (int) steps.chars().filter(c -> c == '(').count(), () -> x.compare(0));
        due("its steps", steps, () -> stepsOf(x));
    }

    private static int[] row(int... lines) {
        return lines;
    }

    /** The steps make B out of A, and leave no more out than the lines that the two don't have in common. */
    private static void deltaFromOneToTheOther() {
        says("THE DELTA from a text A to a text B");
        Random random = new Random(18);
        for (int n = 0; n < 500; n++) {
            int spread = 2 + random.nextInt(11);
            int[] a = anyText(random, spread);
            int[] b = anyText(random, spread);
            DeltaHistory x = withFirst(a);
            put(x, b);
            x.compare(0);
            String of = " of the delta from " + Arrays.toString(a) + " to " + Arrays.toString(b);
            due("what the steps make" + of, Arrays.toString(b), () -> madeBySteps(x, a).toString());
            due("how many are left out" + of, a.length - inCommon(a, b), () -> leftOutBySteps(x));
        }
    }

    private static int[] anyText(Random random, int spread) {
        return random.ints(random.nextInt(13), 1, spread).toArray();
    }

    private static List<Integer> madeBySteps(DeltaHistory x, int[] a) {
        List<Integer> made = new ArrayList<>();
        int passed = 0;
        for (int k = 0; x.step(k, 0) != NONE; k++) {
            for (int place = x.step(k, 1); passed < place; passed++) {
                made.add(a[passed]);
            }
            int many = x.step(k, 2);
            if (x.step(k, 0) == 0) {
                passed += many;
            } else {
                for (int n = 0; n < many; n++) {
                    made.add(x.step(k, 3 + n));
                }
            }
        }
        for (; passed < a.length; passed++) {
            made.add(a[passed]);
        }
        return made;
    }

    private static int leftOutBySteps(DeltaHistory x) {
        int many = 0;
        for (int k = 0; x.step(k, 0) != NONE; k++) {
            many += x.step(k, 0) == 0 ? x.step(k, 2) : 0;
        }
        return many;
    }

    /** Tries every choice of A's lines. */
    private static int inCommon(int[] a, int[] b) {
        int most = 0;
        for (int choice = 0; choice < 1 << a.length; choice++) {
            int j = 0;
            int found = 0;
            for (int i = 0; i < a.length; i++) {
                if ((choice >> i & 1) != 0) {
                    while (j < b.length && b[j] != a[i]) {
                        j++;
                    }
                    found += j < b.length ? 1 : 0;
                    j++;
                }
            }
            most = Math.max(most, found);
        }
        return most;
    }

    private static void mostInCommon() {
        says("let L(i, j) be the most lines that what is left of A behind its first i lines and what is left of B"
            + " behind its first j have in common, in order");
        deltaIs(row(1, 2, 3, 4, 5), row(5, 1, 2, 9, 4), "(1 0 1 5)(0 2 1)(1 3 1 9)(0 4 1)");
        deltaIs(row(1, 2, 2), row(2, 1, 1, 1), "(0 0 1)(0 2 1)(1 3 3 1 1 1)");
        for (List<Integer> a : LoadTest.texts(4)) {
            for (List<Integer> b : LoadTest.texts(4)) {
                StringBuilder steps = new StringBuilder();
                for (List<Integer> step : Model.delta(a, b)) {
                    steps.append(step.toString().replace('[', '(').replace(']', ')').replace(",", ""));
                }
                deltaIs(rowOf(a), rowOf(b), steps.toString());
            }
        }
    }

    private static int[] rowOf(List<Integer> lines) {
        return lines.stream().mapToInt(Integer::intValue).toArray();
    }

    private static void equalLines() {
        says("From i = j = 0 on: while both have lines left, and these first ones are equal, both are passed");
        deltaIs(row(1, 2, 1), row(1), "(0 1 2)");
        deltaIs(row(1), row(1, 2, 1), "(1 1 2 2 1)");
        deltaIs(TWELVE, TWELVE, "");
        deltaIs(row(1, 1, 2), row(1, 2), "(0 1 1)");
        deltaIs(row(1, 2), row(1, 1, 2), "(1 1 1 1)");
        deltaIs(row(7), row(7, 7), "(1 1 1 7)");
        deltaIs(row(7, 7), row(7), "(0 1 1)");
        deltaIs(row(1, 2, 1, 3), row(1, 3), "(0 1 2)");
    }

    private static void leftOut() {
        says("Otherwise, if A has lines left, and B has none or L(i + 1, j) is not less than L(i, j + 1), A's line is"
            + " left out");
        deltaIs(row(1), row(), "(0 0 1)");
        deltaIs(TWELVE, row(), "(0 0 12)");
        deltaIs(row(1, 2, 3), row(1), "(0 1 2)");
        deltaIs(row(1, 2), row(2, 1), "(0 0 1)(1 2 1 1)");
        deltaIs(row(1), row(2), "(0 0 1)(1 1 1 2)");
        deltaIs(row(9, 1, 2), row(1, 2), "(0 0 1)");
        deltaIs(row(1, 2, 3, 4), row(3, 4, 1, 2), "(0 0 2)(1 4 2 1 2)");
    }

    private static void added() {
        says("else B's line is added");
        deltaIs(row(), row(1), "(1 0 1 1)");
        deltaIs(row(1), row(1, 2), "(1 1 1 2)");
        deltaIs(row(1, 2, 3), row(3, 1, 2), "(1 0 1 3)(0 2 1)");
        deltaIs(row(1, 2), row(9, 1, 2), "(1 0 1 9)");
    }

    private static void untilNoneAreLeft() {
        says("until none are left");
        deltaIs(row(), row(), "");
        deltaIs(TWELVE, OTHER_TWELVE, "(0 0 12)(1 12 12 21 22 23 24 25 26 27 28 29 30 31 32)");
        deltaIs(row(), TWELVE, "(1 0 12 1 2 3 4 5 6 7 8 9 10 11 12)");
    }

    private static void oneStepOfWhatIsLeftOut() {
        says("Lines that are left out one behind the other are one STEP (0, i, how many), i being how many lines of A"
            + " are before the first of them");
        deltaIs(row(9, 8, 1, 7, 2, 6, 5, 4), row(1, 2), "(0 0 2)(0 3 1)(0 5 3)");
        deltaIs(TWELVE, row(1, 12), "(0 1 10)");
    }

    private static void oneStepOfWhatIsAdded() {
        says("lines that are added one behind the other are one step (1, i, how many, the lines), i being how many"
            + " lines of A are before them");
        deltaIs(row(1, 2), row(9, 8, 1, 7, 2, 6, 5, 4), "(1 0 2 9 8)(1 1 1 7)(1 2 3 6 5 4)");
        deltaIs(row(1, 5, 2), row(1, 6, 2, 7), "(0 1 1)(1 2 1 6)(1 3 1 7)");
    }

    private static void mostSteps() {
        says("The steps stand in the order in which they come about.");
        deltaIs(row(1, 21, 2, 22, 3, 23, 4, 24, 5, 25, 6, 26), row(11, 21, 12, 22, 13, 23, 14, 24, 15, 25, 16, 26),
            "(0 0 1)(1 1 1 11)(0 2 1)(1 3 1 12)(0 4 1)(1 5 1 13)(0 6 1)(1 7 1 14)(0 8 1)(1 9 1 15)(0 10 1)(1 11 1 16)");
    }

    private static void fileOfAtMost400() {
        says("THE FILE is a row of at most 400 bytes");
        DeltaHistory x = nearlyFull(400);
        due("how many there are", 389, () -> x.size(false));
        due("checkIn up to 400", 19, () -> x.checkIn(0, 0));
        due("how many there are", 400, () -> x.size(false));
        due("the last one", 60, () -> x.at(399, false));
        due("behind it", NONE, () -> x.at(400, false));
        due("it loads", 20, x::load);
        due("checkIn up to 401", UNSUPPORTED, () -> nearlyFull(401).checkIn(0, 0));
    }

    private static void fileHeads() {
        says("how many revisions there are; then for each, by its number, its parent + 1, its user, and its lock + 1"
            + " (0 without)");
        DeltaHistory x = new DeltaHistory();
        x.checkIn(3, NONE);
        due("without lock", "1 0 3 0 0", () -> bytesOf(x, false));
        x.lock(0, 0);
        due("locked by 0", "1 0 3 1 0", () -> bytesOf(x, false));
        x.checkIn(0, 0);
        x.lock(3, 0);
        due("locked by 3", "2 0 3 4 1 0 0 0 0", () -> bytesOf(x, false));
    }

    private static void fileBodies() {
        says("then for each, by its number: of the head how many lines its text has, and the lines; of any other one"
            + " how many steps, and the steps, of the delta that makes its text: of the trunk from the text of its next,"
            + " of a branch from that of its parent.");
        DeltaHistory x = withFirst(1, 2);
        add(x, 0, 2, 3);
        due("the first from its next", "2 0 0 0 1 0 0 2 1 0 1 1 0 1 1 2 2 3", () -> bytesOf(x, false));
        add(x, 0, 4);
        due("the head at its number, before a branch", "3 0 0 0 1 0 0 1 0 0" + " 2 1 0 1 1 0 1 1" + " 2 2 3"
            + " 2 0 0 2 1 2 1 4", () -> bytesOf(x, false));
        add(x, 2, 4, 5);
        add(x, 1);
        due("a branch's from their parents, a head without lines, and the trunk from it",
            "5 0 0 0 1 0 0 1 0 0 3 0 0 2 0 0" + " 2 1 0 1 1 0 1 1" + " 1 1 0 2 2 3" + " 2 0 0 2 1 2 1 4"
            + " 1 1 1 1 5" + " 0", () -> bytesOf(x, false));
        due("it loads", 5, x::load);
        String[] texts = {"1 2", "2 3", "4", "4 5", ""};
        for (int r = 0; r < 5; r++) {
            int each = r;
            due("the text of " + each, texts[each], () -> textOf(x, each));
        }
    }

    private static void fileWithoutRevisions() {
        says("Without revisions it is the byte 0.");
        DeltaHistory x = new DeltaHistory();
        due("the file", "0", () -> bytesOf(x, false));
        due("load()", 0, x::load);
        loads("0 revisions and more bytes", NONE, 0, 0, 0, 0, 0);
    }

    private static void whatIsAChange() {
        says("A CHANGE is a lock, an unlock or a check in.");
        DeltaHistory x = withFirst(7);
        x.crashAfter(0);
        due("checkOut", 1, () -> x.checkOut(0));
        due("insert", true, () -> x.insert(0, 8));
        due("remove", 7, () -> x.remove(1));
        due("desk", true, () -> x.desk(9, 0, 0));
        due("compare", 2, () -> x.compare(0));
        due("corrupt", "1 0 3 0 1 7", () -> corrupted(x, 2, 3));
        due("load", 1, x::load);
        due("about", 3, () -> x.about(0, 1));
        due("lock", CRASHED, () -> x.lock(2, 0));
        due("lock again", 6, () -> x.lock(2, 0));
        x.crashAfter(0);
        due("unlock", CRASHED, () -> x.unlock(2, 0));
        x.crashAfter(0);
        due("checkIn", CRASHED, () -> x.checkIn(2, 0));
        due("checkIn again", 1, () -> x.checkIn(2, 0));
    }

    private static void whatThrowsWritesNothing() {
        says("If it does not throw, it writes the file as it is to be to the file ASIDE");
        DeltaHistory x = withAll();
        String file = bytesOf(x, false);
        due("lock of what is locked", STATE, () -> x.lock(0, 0));
        due("unlock of what another has locked", STATE, () -> x.unlock(0, 0));
        due("checkIn from what another has locked", STATE, () -> x.checkIn(0, 0));
        due("aside", "2 0 0", () -> bytesOf(x, true));
        due("the file", file, () -> bytesOf(x, false));
    }

    private static void asideIsEmptiedBefore() {
        says("it writes the file as it is to be to the file ASIDE (which is emptied before), byte by byte");
        DeltaHistory x = withFirst(7, 8);
        int[] crashes = {5, 2, 7, 0};
        String[] asides = {"1 0 0 2 2", "1 0", "1 0 0 2 2 7 8", ""};
        for (int k = 0; k < crashes.length; k++) {
            int each = k;
            x.crashAfter(crashes[each]);
            due("lock crashed after " + crashes[each], CRASHED, () -> x.lock(1, 0));
            due("aside", asides[each], () -> bytesOf(x, true));
        }
    }

    private static void asideBecomesTheFile() {
        says("when all are written this becomes the file, at once, and aside is empty");
        DeltaHistory x = withAll();
        x.crashAfter(NONE);
        due("unlock", 15, () -> x.unlock(1, 0));
        due("the file, with nothing of what was written over it", "2 0 0 0 1 0 0 1 1 1 1 2 2 1 3",
            () -> bytesOf(x, false));
        due("aside", 0, () -> x.size(true));
        due("byte 0 of aside", NONE, () -> x.at(0, true));
    }

    /** Each change with a crash at each byte of the file that it writes, and behind it. */
    private static void crashAtEachByte() {
        says("If a CRASH is set for n: when the file is to have n bytes or more, n of them are written aside, and"
            + " nothing else is changed; when it is to have n - 1, all is done; in both cases the answer is CRASHED;"
            + " otherwise there is no crash.");
        crashed("lock", "1 0 0 0 2 7 8", "1 0 0 2 2 7 8", x -> x.lock(1, 0), 7);
        crashed("unlock", "1 0 0 4 2 7 8", "1 0 0 0 2 7 8", x -> x.unlock(3, 0), 7);
        crashed("checkIn", "1 0 0 3 2 7 8", "2 0 0 0 1 2 0 1 1 1 1 8 1 7", x -> x.checkIn(2, 0), 1);
        crashed("the first checkIn", "0", "1 0 2 0 1 7", x -> x.checkIn(2, NONE), 0);
    }

    private static DeltaHistory beforeChange(String file) {
        DeltaHistory x = file.equals("0") ? new DeltaHistory() : withFirst(7, 8);
        int lock = file.length() > 1 ? file.charAt(6) - '1' : NONE;
        if (lock != NONE) {
            x.lock(lock, 0);
        }
        put(x, 7);
        return x;
    }

    private static void crashed(String what, String before, String after, Function<DeltaHistory, Integer> change,
            int answer) {
        String[] bytes = after.split(" ");
        int[] crashes = range(0, bytes.length + 3);
        crashes[bytes.length + 3] = HIGH;
        for (int n : crashes) {
            DeltaHistory x = beforeChange(before);
            int had = x.revisions();
            String locks = had == 0 ? "" : String.valueOf(x.about(0, 2));
            x.crashAfter(n);
            String of = what + ", crash after " + n;
            boolean isDone = n > bytes.length;
            due(of, n <= bytes.length + 1 ? CRASHED : answer, () -> change.apply(x));
            due(of + ": aside", isDone ? "" : String.join(" ", Arrays.copyOf(bytes, n)),
                () -> bytesOf(x, true));
            due(of + ": the file", isDone ? after : before, () -> bytesOf(x, false));
            due(of + ": revisions()", Integer.parseInt((isDone ? after : before).substring(0, 1)), x::revisions);
            due(of + ": the desk", "7", () -> deskOf(x));
            if (!isDone && had > 0) {
                due(of + ": the lock", locks, () -> x.about(0, 2));
                due(of + ": the next", NONE, () -> x.about(0, 4));
            }
            if (!isDone) {
                due(of + ": and again without crash", answer, () -> change.apply(x));
                due(of + ": then the file", after, () -> bytesOf(x, false));
            }
        }
    }

    private static void crashOfAFullFile() {
        says("when the file is to have n bytes or more, n of them are written aside");
        for (int n = 399; n <= 402; n++) {
            int crash = n;
            DeltaHistory x = full();
            x.crashAfter(crash);
            due("lock, crash after " + crash, crash <= 401 ? CRASHED : 400, () -> x.lock(1, 5));
            due("bytes aside", crash <= 400 ? crash : 0, () -> x.size(true));
            due("the last one aside", crash == 400 ? 60 : NONE, () -> x.at(399, true));
            due("its lock", crash <= 400 ? NONE : 1, () -> x.about(5, 2));
            DeltaHistory y = nearlyFull(400);
            y.crashAfter(crash);
            due("checkIn, crash after " + crash, crash <= 401 ? CRASHED : 19, () -> y.checkIn(0, 0));
            due("revisions()", crash <= 400 ? 19 : 20, y::revisions);
            due("bytes aside", crash <= 400 ? crash : 0, () -> y.size(true));
            due("the file's bytes", crash <= 400 ? 389 : 400, () -> y.size(false));
        }
    }

    private static void noneIsSetAnyMore() {
        says("In all three cases none is set any more.");
        for (int n : new int[] {0, 1, 6, 7, 8, 9, 14, 15}) {
            DeltaHistory x = withFirst(7, 8);
            put(x, 7);
            x.crashAfter(n);
            x.lock(1, 0);
            if (n <= 7) {
                due("lock again behind a crash after " + n, 7, () -> x.lock(1, 0));
            }
            due("checkIn of 14 bytes behind a crash after " + n, 1, () -> x.checkIn(1, 0));
        }
    }

    private static void throwingChangesNothing() {
        says("A call that throws changes nothing");
        changesNothing("lock, no such user", OUT, Sentences::withAll, x -> x.lock(4, 1));
        changesNothing("lock, no such revision", OUT, Sentences::withAll, x -> x.lock(0, 2));
        changesNothing("lock, locked", STATE, Sentences::withAll, x -> x.lock(2, 0));
        changesNothing("unlock, no such user", OUT, Sentences::withAll, x -> x.unlock(-1, 0));
        changesNothing("unlock, no such revision", OUT, Sentences::withAll, x -> x.unlock(1, 2));
        changesNothing("unlock, locked by another", STATE, Sentences::withAll, x -> x.unlock(2, 0));
        changesNothing("unlock, not locked", STATE, Sentences::withAll, x -> x.unlock(1, 1));
        changesNothing("checkIn, no such user", OUT, Sentences::withAll, x -> x.checkIn(4, 0));
        changesNothing("checkIn, no such revision", OUT, Sentences::withAll, x -> x.checkIn(1, 2));
        changesNothing("checkIn from NONE", OUT, Sentences::withAll, x -> x.checkIn(1, NONE));
        changesNothing("checkIn, locked by another", STATE, Sentences::withAll, x -> x.checkIn(0, 0));
        changesNothing("checkIn, not locked", STATE, Sentences::withAll, x -> x.checkIn(0, 1));
        changesNothing("the first checkIn, no such revision", OUT, DeltaHistory::new, x -> x.checkIn(0, 0));
        changesNothing("checkIn, 20 revisions", UNSUPPORTED, TermsTest::twentyAndACrash, x -> x.checkIn(2, 19));
        changesNothing("checkIn, 401 bytes", UNSUPPORTED, TermsTest::nearlyFullAndACrash, x -> x.checkIn(0, 0));
        changesNothing("checkOut", OUT, Sentences::withAll, x -> x.checkOut(2));
        changesNothing("corrupt, no such byte", OUT, Sentences::withAll, x -> corrupted(x, 15, 1));
        changesNothing("corrupt, no byte", ARGUMENT, Sentences::withAll, x -> corrupted(x, 14, 256));
        changesNothing("about", OUT, Sentences::withAll, x -> x.about(2, 0));
        changesNothing("name", OUT, Sentences::withAll, x -> x.name(2, 0));
        changesNothing("root", OUT, Sentences::withAll, x -> x.root(0, 2));
        changesNothing("compare", OUT, Sentences::withAll, x -> x.compare(2));
    }

    private static DeltaHistory twentyAndACrash() {
        DeltaHistory x = trunkOf(20);
        x.lock(2, 19);
        return crashedOnce(x);
    }

    private static DeltaHistory nearlyFullAndACrash() {
        return crashedOnce(nearlyFull(401));
    }

    /** With bytes aside, and a crash set once more. */
    private static DeltaHistory crashedOnce(DeltaHistory x) {
        x.crashAfter(6);
        x.lock(3, 1);
        x.crashAfter(4);
        return x;
    }

    private static void firstNamedIsThrown() {
        says("where several exceptions that a call names fit, the one named first is thrown");
        DeltaHistory locked = withAll();
        due("lock of what is locked, no such user", OUT, () -> locked.lock(4, 0));
        due("unlock of what is not locked, no such user", OUT, () -> locked.unlock(4, 1));
        due("unlock of what another has locked, no such user", OUT, () -> locked.unlock(-1, 0));
        due("unlock, no such user, though NONE has it locked", OUT, () -> locked.unlock(NONE, 1));
        due("checkIn from what is not locked, no such user", OUT, () -> locked.checkIn(4, 1));
        due("checkIn from what is not locked, user NONE", OUT, () -> locked.checkIn(NONE, 1));
        due("corrupt, no such byte and no byte", OUT, () -> corrupted(locked, 15, 256));
        due("corrupt, no such byte and no byte", OUT, () -> corrupted(locked, -1, -1));
        DeltaHistory twenty = twentyAndACrash();
        due("checkIn, no such user, not locked, 20", OUT, () -> twenty.checkIn(4, 18));
        due("checkIn, no such user, locked, 20", OUT, () -> twenty.checkIn(4, 19));
        due("checkIn, no such revision, 20", OUT, () -> twenty.checkIn(2, 20));
        due("checkIn from NONE, 20", OUT, () -> twenty.checkIn(2, NONE));
        due("checkIn, not locked, 20", STATE, () -> twenty.checkIn(2, 18));
        due("checkIn, locked by another, 20", STATE, () -> twenty.checkIn(0, 19));
        DeltaHistory large = nearlyFull(401);
        due("checkIn, no such user, 401 bytes", OUT, () -> large.checkIn(4, 0));
        due("checkIn, no such revision, 401 bytes", OUT, () -> large.checkIn(0, 19));
        due("checkIn from NONE, 401 bytes", OUT, () -> large.checkIn(0, NONE));
        due("checkIn, locked by another, 401 bytes", STATE, () -> large.checkIn(1, 0));
    }

    private static void crashedIsMinusTwo() {
        says("The constants: CRASHED = -2: A change met a crash.");
        due("CRASHED", -2, () -> DeltaHistory.CRASHED);
        due("NONE", -1, () -> DeltaHistory.NONE);
        DeltaHistory x = new DeltaHistory();
        x.crashAfter(1);
        due("the first checkIn", DeltaHistory.CRASHED, () -> x.checkIn(0, DeltaHistory.NONE));
        due("without a crash", 0, () -> x.checkIn(0, DeltaHistory.NONE));
        x.crashAfter(6);
        due("lock, done", DeltaHistory.CRASHED, () -> x.lock(0, 0));
        x.crashAfter(5);
        due("unlock, not done", DeltaHistory.CRASHED, () -> x.unlock(0, 0));
        x.crashAfter(10);
        due("checkIn, done", DeltaHistory.CRASHED, () -> x.checkIn(0, 0));
        due("revisions()", 2, x::revisions);
    }
}
