/** Promises 10 and 14 to 19: checkOut, and what can be asked of revisions and deltas. */
public final class LookTest extends Sentences {
    private static final int[] NO_REVISIONS = {7, 19, 20, -1, -2, LOW, HIGH};

    public static void main(String[] args) {
        checkOutMakesTheDesk();
        checkOutOut();
        revisions();
        about();
        aboutOthers();
        aboutOut();
        name();
        nameBehindTheLast();
        nameOut();
        root();
        rootOut();
        compareAnswers();
        compareNone();
        compareOut();
        stepNumbers();
        stepOfTheLastCompare();
        stepNone();
        CHECKS.end();
    }

    /** Seven revisions: the trunk 0 1 4, a branch 2 3 at 0 and one 5 6 at 2. */
    private static DeltaHistory seven() {
        return withParents(0, 0, 2, 1, 2, 5);
    }

    private static void checkOutMakesTheDesk() {
        says("The desk's text becomes that of a revision; answers how many lines it has.");
        DeltaHistory x = withFirst(TWELVE);
        add(x, 0);
        add(x, 0, 99);
        due("checkOut of 12 lines", 12, () -> x.checkOut(0));
        due("the desk's text", "1 2 3 4 5 6 7 8 9 10 11 12", () -> deskOf(x));
        due("checkOut of no lines", 0, () -> x.checkOut(1));
        due("the desk's text", "", () -> deskOf(x));
        due("checkOut of a line", 1, () -> x.checkOut(2));
        due("the desk's text", "99", () -> deskOf(x));
        x.insert(0, 5);
        x.remove(1);
        due("the revision's text goes on alone", "99", () -> textOf(x, 2));
        due("checkOut of what another has locked", 12, () -> {
            x.lock(3, 0);
            return x.checkOut(0);
        });
        due("its lock stays", 3, () -> x.about(0, 2));
    }

    private static void checkOutOut() {
        says("IndexOutOfBoundsException when there is no such revision.");
        due("checkOut(0) without revisions", OUT, () -> new DeltaHistory().checkOut(0));
        for (int revision : NO_REVISIONS) {
            changesNothing("checkOut(" + revision + ")", OUT, LookTest::seven, x -> x.checkOut(revision));
        }
        DeltaHistory twenty = trunkOf(20);
        due("checkOut of the twentieth", 0, () -> twenty.checkOut(19));
        due("checkOut of a twenty first", OUT, () -> twenty.checkOut(20));
    }

    private static void revisions() {
        says("How many revisions there are.");
        DeltaHistory x = new DeltaHistory();
        due("without", 0, x::revisions);
        for (int k = 0; k < 20; k++) {
            int count = k + 1;
            add(x, count == 1 ? NONE : 0);
            due("revisions()", count, x::revisions);
        }
        x.lock(0, 0);
        due("a refused one", UNSUPPORTED, () -> x.checkIn(0, 0));
        due("revisions()", 20, x::revisions);
    }

    private static void about() {
        says("Of a revision: what = 0 its parent, 1 its user, 2 its lock (NONE without), 3 how many numbers its name"
            + " has, 4 its next (NONE if there is none), 5 how many branches begin at it");
        DeltaHistory x = new DeltaHistory();
        x.checkIn(2, NONE);
        int[] users = {3, 1, 0};
        int[] parents = {0, 0, 2};
        for (int k = 0; k < 3; k++) {
            x.lock(users[k], parents[k]);
            x.checkIn(users[k], parents[k]);
        }
        x.lock(0, 3);
        x.lock(3, 1);
        int[][] wants = {{-1, 2, -1, 2, 1, 1}, {0, 3, 3, 2, -1, 0}, {0, 1, -1, 4, 3, 0}, {2, 0, 0, 4, -1, 0}};
        for (int r = 0; r < 4; r++) {
            for (int what = 0; what < 6; what++) {
                int one = r;
                int each = what;
                due("about(" + one + ", " + each + ")", wants[one][each], () -> x.about(one, each));
            }
        }
    }

    private static void aboutOthers() {
        says("NONE for others");
        for (int what : new int[] {6, 7, -1, -2, LOW, HIGH}) {
            due("about(0, " + what + ")", NONE, () -> seven().about(0, what));
        }
    }

    private static void aboutOut() {
        says("IndexOutOfBoundsException when there is no such revision.");
        due("about(0, 0) without revisions", OUT, () -> new DeltaHistory().about(0, 0));
        DeltaHistory x = seven();
        for (int revision : NO_REVISIONS) {
            due("about(" + revision + ", 0)", OUT, () -> x.about(revision, 0));
            due("about(" + revision + ", 6)", OUT, () -> x.about(revision, 6));
        }
        due("about(6, 0)", 5, () -> x.about(6, 0));
    }

    private static void name() {
        says("Number k (from 0) of the name of a revision");
        DeltaHistory x = seven();
        int[] wants = {1, 1, 1, 1, 1, 2};
        for (int k = 0; k < 6; k++) {
            int each = k;
            due("name(6, " + each + ")", wants[each], () -> x.name(6, each));
        }
        DeltaHistory many = withParents(new int[19]);
        due("how many branches begin at 0", 18, () -> many.name(19, 2));
        due("name(19, 3)", 1, () -> many.name(19, 3));
        due("the last number", 20, () -> trunkOf(20).name(19, 1));
    }

    private static void nameBehindTheLast() {
        says("0 when it has none such");
        DeltaHistory x = seven();
        int[] lengths = {2, 2, 4, 4, 2, 6, 6};
        for (int r = 0; r < 7; r++) {
            int one = r;
            due("behind the last of " + one, 0, () -> x.name(one, lengths[one]));
            for (int k : new int[] {7, 8, 20, 21, -1, -2, LOW, HIGH}) {
                due("name(" + one + ", " + k + ")", 0, () -> x.name(one, k));
            }
        }
    }

    private static void nameOut() {
        says("IndexOutOfBoundsException when there is no such revision.");
        due("name(0, 0) without revisions", OUT, () -> new DeltaHistory().name(0, 0));
        DeltaHistory x = seven();
        for (int revision : NO_REVISIONS) {
            due("name(" + revision + ", 0)", OUT, () -> x.name(revision, 0));
            due("name(" + revision + ", -1)", OUT, () -> x.name(revision, -1));
        }
    }

    private static void root() {
        says("The revision that comes last of those from which both come (each comes from itself).");
        DeltaHistory x = seven();
        int[][] wants = {{0, 0, 0, 0, 0, 0, 0}, {0, 1, 0, 0, 1, 0, 0}, {0, 0, 2, 2, 0, 2, 2}, {0, 0, 2, 3, 0, 2, 2},
            {0, 1, 0, 0, 4, 0, 0}, {0, 0, 2, 2, 0, 5, 5}, {0, 0, 2, 2, 0, 5, 6}};
        for (int one = 0; one < 7; one++) {
            for (int two = 0; two < 7; two++) {
                int first = one;
                int second = two;
                due("root(" + first + ", " + second + ")", wants[first][second], () -> x.root(first, second));
            }
        }
        due("the ends of the longest ways", 0, () -> withParents(0, 0, 1, 2, 3, 4, 5, 6, 7, 8, 9, 10, 11, 12, 13, 14,
            15, 16, 17).root(18, 19));
        due("of the first and the twentieth", 0, () -> trunkOf(20).root(19, 0));
    }

    private static void rootOut() {
        says("IndexOutOfBoundsException when there are no such revisions.");
        due("root(0, 0) without revisions", OUT, () -> new DeltaHistory().root(0, 0));
        DeltaHistory x = seven();
        for (int wrong : NO_REVISIONS) {
            due("root(" + wrong + ", 0)", OUT, () -> x.root(wrong, 0));
            due("root(0, " + wrong + ")", OUT, () -> x.root(0, wrong));
            due("root(" + wrong + ", " + wrong + ")", OUT, () -> x.root(wrong, wrong));
        }
    }

    private static void compareAnswers() {
        says("Makes the delta from the text of a revision (NONE: no lines) to the desk's text; answers how many"
            + " steps it has.");
        DeltaHistory x = withFirst(1, 2, 3);
        add(x, 0, 4);
        due("compare with itself", 0, () -> x.compare(1));
        due("no steps", "", () -> stepsOf(x));
        due("compare(0)", 2, () -> x.compare(0));
        due("from the revision to the desk", "(0 0 3)(1 3 1 4)", () -> stepsOf(x));
        put(x);
        due("to no lines", 1, () -> x.compare(0));
        due("its step", "(0 0 3)", () -> stepsOf(x));
        put(x, 1, 2, 3);
        due("to the revision's own lines", 0, () -> x.compare(0));
        due("the desk's text stays", "1 2 3", () -> deskOf(x));
    }

    private static void compareNone() {
        says("(NONE: no lines)");
        DeltaHistory x = new DeltaHistory();
        due("without revisions, no lines", 0, () -> x.compare(NONE));
        put(x, 9);
        due("without revisions", 1, () -> x.compare(NONE));
        due("its step", "(1 0 1 9)", () -> stepsOf(x));
        add(x, NONE, TWELVE);
        due("with revisions", 1, () -> x.compare(NONE));
        due("its step", "(1 0 12 1 2 3 4 5 6 7 8 9 10 11 12)", () -> stepsOf(x));
        put(x);
        due("with revisions, no lines", 0, () -> x.compare(NONE));
    }

    private static void compareOut() {
        says("IndexOutOfBoundsException when there is no such revision.");
        due("compare(0) without revisions", OUT, () -> new DeltaHistory().compare(0));
        for (int revision : new int[] {2, 19, 20, -2, LOW, HIGH}) {
            changesNothing("compare(" + revision + ")", OUT, Sentences::withAll, x -> x.compare(revision));
        }
    }

    private static void stepNumbers() {
        says("Of step k of the delta that compare made last: what = 0: 0 or 1; 1: i; 2: how many; 3 and more: the"
            + " lines of one that adds.");
        DeltaHistory x = withFirst(TWELVE);
        put(x, OTHER_TWELVE);
        x.compare(0);
        int[] left = {0, 0, 12};
        int[] added = {1, 12, 12, 21, 22, 23, 24, 25, 26, 27, 28, 29, 30, 31, 32};
        for (int what = 0; what < 15; what++) {
            int each = what;
            due("step(0, " + each + ")", each < 3 ? left[each] : NONE, () -> x.step(0, each));
            due("step(1, " + each + ")", added[each], () -> x.step(1, each));
        }
        due("step(1, 15)", NONE, () -> x.step(1, 15));
    }

    private static void stepOfTheLastCompare() {
        says("the delta that compare made last");
        DeltaHistory x = withFirst(1, 2, 3);
        put(x, 4, 3);
        x.compare(NONE);
        due("the first", "(1 0 2 4 3)", () -> stepsOf(x));
        put(x, 50, 51, 52);
        x.lock(0, 0);
        x.checkIn(0, 0);
        x.load();
        x.checkOut(1);
        x.remove(0);
        due("though texts and revisions changed since", "(1 0 2 4 3)", () -> stepsOf(x));
        due("a compare that throws", OUT, () -> x.compare(2));
        due("is none that made one", "(1 0 2 4 3)", () -> stepsOf(x));
        put(x, 1, 2, 3, 9);
        due("compare(0)", 1, () -> x.compare(0));
        due("the last", "(1 3 1 9)", () -> stepsOf(x));
        due("nothing is left of the one before", NONE, () -> x.step(0, 4));
        put(x, 1, 2, 3);
        due("compare(0)", 0, () -> x.compare(0));
        due("no steps", NONE, () -> x.step(0, 0));
    }

    private static void stepNone() {
        says("NONE when there is no such step or number.");
        for (int k : new int[] {0, 1, -1, LOW, HIGH}) {
            due("step(" + k + ", 0) before any compare", NONE, () -> new DeltaHistory().step(k, 0));
        }
        DeltaHistory x = withFirst(1, 2, 3);
        put(x, 50, 51, 52);
        x.compare(0);
        for (int k : new int[] {2, 3, 23, 24, -1, LOW, HIGH}) {
            for (int what = 0; what < 4; what++) {
                int each = what;
                due("step(" + k + ", " + each + ")", NONE, () -> x.step(k, each));
            }
        }
        for (int what : new int[] {-1, -2, LOW, LOW + 2, LOW + 3, LOW + 5, HIGH}) {
            due("step(0, " + what + ")", NONE, () -> x.step(0, what));
            due("step(1, " + what + ")", NONE, () -> x.step(1, what));
        }
        due("a line of one that leaves out", NONE, () -> x.step(0, 3));
        due("the last line of one that adds", 52, () -> x.step(1, 5));
        due("behind it", NONE, () -> x.step(1, 6));
        put(x, 9, 1, 8, 2, 3);
        x.compare(0);
        due("a line of another step", NONE, () -> x.step(0, 4));
    }
}
