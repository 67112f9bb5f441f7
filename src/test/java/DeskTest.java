/** Promises 1 to 6: a new object, and the desk's text. */
public final class DeskTest extends Sentences {
    public static void main(String[] args) {
        newObject();
        newObjectBesideAnother();
        deskTakesBytes();
        deskLeavesZerosOut();
        deskRefuses();
        insertPuts();
        insertRefusesLine();
        insertRefusesThirteenth();
        insertRefusesPlace();
        removeTakesOut();
        removeRefuses();
        lines();
        line();
        CHECKS.end();
    }

    private static void newObject() {
        says("No revisions, an empty desk, the file 0, nothing aside, no crash set.");
        DeltaHistory x = new DeltaHistory();
        due("revisions()", 0, x::revisions);
        due("lines()", 0, x::lines);
        due("line(0)", NONE, () -> x.line(0));
        due("size(false)", 1, () -> x.size(false));
        due("at(0, false)", 0, () -> x.at(0, false));
        due("size(true)", 0, () -> x.size(true));
        due("at(0, true)", NONE, () -> x.at(0, true));
        due("step(0, 0)", NONE, () -> x.step(0, 0));
        due("checkOut(0)", OUT, () -> x.checkOut(0));
        due("about(0, 0)", OUT, () -> x.about(0, 0));
        due("lock(0, 0)", OUT, () -> x.lock(0, 0));
        due("checkIn(0, NONE), no crash", 0, () -> x.checkIn(0, NONE));
        due("revisions()", 1, x::revisions);
    }

    private static void newObjectBesideAnother() {
        says("No revisions, an empty desk, the file 0, nothing aside, no crash set.");
        DeltaHistory used = withAll();
        DeltaHistory x = new DeltaHistory();
        due("revisions() beside one with two", 0, x::revisions);
        due("lines() beside one with two", 0, x::lines);
        due("step(0, 0) beside one with a delta", NONE, () -> x.step(0, 0));
        due("the file beside one of 15 bytes", "0", () -> bytesOf(x, false));
        due("size(true) beside one with bytes aside", 0, () -> x.size(true));
        put(x, 50);
        due("checkIn beside one with a crash that is set", 0, () -> x.checkIn(0, NONE));
        due("compare(NONE)", 1, () -> x.compare(NONE));
        due("the other's desk", "4 3", () -> deskOf(used));
        due("the other's delta", "(0 0 2)(1 2 1 4)", () -> stepsOf(used));
        due("the other's file", "2 0 3 2 1 0 0 1 1 1 1 2 2 1 3", () -> bytesOf(used, false));
        due("the other's bytes aside", "2 0 0", () -> bytesOf(used, true));
        due("the other's crash", CRASHED, () -> used.unlock(1, 0));
    }

    /** A word with this byte at place k of its four, the highest first. */
    private static int wordWith(int k, int b) {
        return b << 24 - 8 * k;
    }

    /** desk with this byte at place k of its twelve, and 0 or 7 at all others. */
    private static boolean deskWith(DeltaHistory x, int k, int b, int others) {
        int[] words = new int[3];
        for (int n = 0; n < 12; n++) {
            words[n / 4] |= wordWith(n % 4, n == k ? b : others);
        }
        return x.desk(words[0], words[1], words[2]);
    }

    private static void deskTakesBytes() {
        says("The desk's text becomes the bytes other than 0 of a, b and c, the highest first.");
        DeltaHistory x = new DeltaHistory();
        due("desk of 12", true, () -> x.desk(0x0b02630c, 0x05010708, 0x090a0463));
        due("12 lines", "11 2 99 12 5 1 7 8 9 10 4 99", () -> deskOf(x));
        due("desk of 3", true, () -> x.desk(3, 2, 1));
        due("3 lines in place of 12", "3 2 1", () -> deskOf(x));
    }

    private static void deskLeavesZerosOut() {
        says("the bytes other than 0");
        DeltaHistory x = new DeltaHistory();
        due("zeros between", true, () -> x.desk(0x00010002, 0, 0x63000000));
        due("what is left", "1 2 99", () -> deskOf(x));
        for (int k = 0; k < 12; k++) {
            int place = k;
            due("one 0 at " + place, true, () -> deskWith(x, place, 0, 7));
            due("how many lines", 11, x::lines);
            due("all 0 but at " + place, true, () -> deskWith(x, place, 99, 0));
            due("what is left", "99", () -> deskOf(x));
        }
        due("all 0", true, () -> x.desk(0, 0, 0));
        due("no lines", 0, x::lines);
    }

    private static void deskRefuses() {
        says("False, refused, when one of these is not 1 .. 99.");
        for (int k = 0; k < 12; k++) {
            int place = k;
            DeltaHistory x = new DeltaHistory();
            put(x, 3, 4);
            for (int b : new int[] {100, 127, 128, 200, 255}) {
                due("desk with " + b + " at " + place + " alone", false, () -> deskWith(x, place, b, 0));
                due("desk with " + b + " at " + place + " of 12", false, () -> deskWith(x, place, b, 7));
                due("refused", "3 4", () -> deskOf(x));
            }
            due("desk with 99 at " + place + " of 12", true, () -> deskWith(x, place, 99, 7));
            due("desk with 1 at " + place + " of 12", true, () -> deskWith(x, place, 1, 7));
        }
        changesNothing("desk(-1, 0, 0)", false, Sentences::withAll, x -> x.desk(-1, 0, 0));
        changesNothing("desk(1, 2, 100)", false, Sentences::withAll, x -> x.desk(1, 2, 100));
        changesNothing("desk(LOW, HIGH, 0)", false, Sentences::withAll, x -> x.desk(LOW, HIGH, 0));
    }

    private static void insertPuts() {
        says("Puts a line into the desk's text, so that so many lines are before it.");
        DeltaHistory x = new DeltaHistory();
        due("into none", true, () -> x.insert(0, 5));
        due("behind all", true, () -> x.insert(1, 6));
        due("before all", true, () -> x.insert(0, 4));
        due("within", true, () -> x.insert(1, 9));
        due("the desk's text", "4 9 5 6", () -> deskOf(x));
        put(x, 1, 2, 3, 4, 5, 6, 7, 8, 9, 10, 11);
        due("the twelfth, before all", true, () -> x.insert(0, 50));
        due("12 lines", "50 1 2 3 4 5 6 7 8 9 10 11", () -> deskOf(x));
        put(x, 1, 2, 3, 4, 5, 6, 7, 8, 9, 10, 11);
        due("the twelfth, behind all", true, () -> x.insert(11, 50));
        due("12 lines", "1 2 3 4 5 6 7 8 9 10 11 50", () -> deskOf(x));
    }

    private static void insertRefusesLine() {
        says("False, refused, when line is not 1 .. 99");
        for (int line : new int[] {0, 100, -1, 256, 257, LOW, HIGH}) {
            changesNothing("insert(1, " + line + ")", false, Sentences::withAll, x -> x.insert(1, line));
        }
        DeltaHistory x = new DeltaHistory();
        due("insert(0, 1)", true, () -> x.insert(0, 1));
        due("insert(0, 99)", true, () -> x.insert(0, 99));
        due("the desk's text", "99 1", () -> deskOf(x));
    }

    private static void insertRefusesThirteenth() {
        says("False, refused, when line is not 1 .. 99, there are 12 lines");
        DeltaHistory x = new DeltaHistory();
        put(x, TWELVE);
        for (int before : new int[] {0, 6, 11, 12, 13}) {
            due("insert(" + before + ", 50)", false, () -> x.insert(before, 50));
        }
        due("12 lines", "1 2 3 4 5 6 7 8 9 10 11 12", () -> deskOf(x));
        x.remove(0);
        due("insert into 11", true, () -> x.insert(0, 50));
    }

    private static void insertRefusesPlace() {
        says("False, refused, when line is not 1 .. 99, there are 12 lines, or not so many before.");
        for (int before : new int[] {3, 12, -1, LOW, HIGH}) {
            changesNothing("insert(" + before + ", 1) into 2 lines", false, Sentences::withAll,
                x -> x.insert(before, 1));
        }
        DeltaHistory x = new DeltaHistory();
        due("insert(1, 1) into none", false, () -> x.insert(1, 1));
        due("insert(0, 1) into none", true, () -> x.insert(0, 1));
        due("insert(2, 2) into 1", false, () -> x.insert(2, 2));
        due("insert(1, 2) into 1", true, () -> x.insert(1, 2));
        due("the desk's text", "1 2", () -> deskOf(x));
    }

    private static void removeTakesOut() {
        says("Takes line k (from 0) out of the desk's text and answers it");
        DeltaHistory x = new DeltaHistory();
        put(x, TWELVE);
        due("remove the last of 12", 12, () -> x.remove(11));
        due("remove the first", 1, () -> x.remove(0));
        due("remove within", 4, () -> x.remove(2));
        due("the desk's text", "2 3 5 6 7 8 9 10 11", () -> deskOf(x));
        put(x, 99);
        due("remove the only one", 99, () -> x.remove(0));
        due("lines()", 0, x::lines);
    }

    private static void removeRefuses() {
        says("NONE, refused, when there is none.");
        due("remove(0) of none", NONE, () -> new DeltaHistory().remove(0));
        for (int k : new int[] {2, 12, -1, LOW, HIGH}) {
            changesNothing("remove(" + k + ") of 2 lines", NONE, Sentences::withAll, x -> x.remove(k));
        }
        DeltaHistory x = new DeltaHistory();
        put(x, TWELVE);
        due("remove(12) of 12", NONE, () -> x.remove(12));
        due("lines()", 12, x::lines);
        x.remove(11);
        due("remove(11) of 11", NONE, () -> x.remove(11));
    }

    private static void lines() {
        says("How many lines the desk's text has.");
        DeltaHistory x = new DeltaHistory();
        for (int k = 0; k < 12; k++) {
            due("lines()", k, x::lines);
            x.insert(k, 1);
        }
        due("lines() of 12", 12, x::lines);
        x.insert(0, 1);
        due("behind a refused insert", 12, x::lines);
        x.remove(12);
        due("behind a refused remove", 12, x::lines);
        x.desk(100, 0, 0);
        due("behind a refused desk", 12, x::lines);
        x.remove(0);
        due("behind a remove", 11, x::lines);
    }

    private static void line() {
        says("Line k of the desk's text; NONE when there is none.");
        DeltaHistory x = new DeltaHistory();
        due("line(0) of none", NONE, () -> x.line(0));
        put(x, 1, 2, 3, 4, 5, 6, 7, 8, 9, 10, 11, 99);
        due("the first", 1, () -> x.line(0));
        due("the last of 12", 99, () -> x.line(11));
        for (int k : new int[] {12, 13, -1, LOW, HIGH}) {
            due("line(" + k + ") of 12", NONE, () -> x.line(k));
        }
        x.remove(11);
        due("where one was removed", NONE, () -> x.line(11));
        put(x, 5);
        due("where 11 were", NONE, () -> x.line(1));
    }
}
