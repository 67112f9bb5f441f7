/** Promises 12, 13, 20 and 21: the file's bytes, written over, read, and looked at. */
public final class FileTest extends Sentences {
    // Revision 0 has the lines 1 2 3, revision 1, its next, the lines 1 3.
    private static final int[] TWO = {2, 0, 0, 0, 1, 0, 0, 1, 1, 1, 1, 2, 2, 1, 3};

    public static void main(String[] args) {
        corruptWrites();
        corruptWithoutCrash();
        corruptKeepsRevisions();
        corruptOut();
        corruptOfNoByte();
        loadReadsTheFile();
        loadTakes();
        loadLeavesTheRest();
        loadAgain();
        loadAnyTextsUsersAndLocks();
        loadAnyThatCanComeAbout();
        loadOfWrongHeads();
        loadOfWrongSizes();
        loadBehindTheGreatestFile();
        loadOfStepsThatCannotBeMade();
        loadOfStepsThatAreNotTheDelta();
        loadOtherwise();
        size();
        at();
        atNone();
        CHECKS.end();
    }

    /** TWO with other bytes at some places: place, byte, place, byte, .. */
    private static int[] twoBut(int... changes) {
        int[] bytes = TWO.clone();
        for (int k = 0; k < changes.length; k += 2) {
            bytes[changes[k]] = changes[k + 1];
        }
        return bytes;
    }

    private static void corruptWrites() {
        says("Writes a byte over byte k of the file");
        DeltaHistory x = withFirst(5, 6);
        due("the first byte, 0", "0 0 0 0 2 5 6", () -> corrupted(x, 0, 0));
        due("the last byte, 255", "0 0 0 0 2 5 255", () -> corrupted(x, 6, 255));
        due("one within, 128", "0 0 0 128 2 5 255", () -> corrupted(x, 3, 128));
        due("the same again", "0 0 0 128 2 5 255", () -> corrupted(x, 3, 128));
        due("the only byte of the smallest file", "255", () -> corrupted(new DeltaHistory(), 0, 255));
        DeltaHistory full = full();
        full.corrupt(399, 255);
        due("the last byte of the greatest file", 255, () -> full.at(399, false));
        due("its size", 400, () -> full.size(false));
    }

    private static void corruptWithoutCrash() {
        says("without any crash");
        for (int n : new int[] {0, 1, 6, 7}) {
            DeltaHistory x = withFirst(5);
            x.crashAfter(n);
            due("crash after " + n, "1 0 0 2 1 5", () -> corrupted(x, 3, 2));
            due("nothing aside", 0, () -> x.size(true));
            due("the crash is still set", CRASHED, () -> x.lock(0, 0));
        }
    }

    private static void corruptKeepsRevisions() {
        says("the revisions stay as they are");
        DeltaHistory x = withFirst(5);
        for (int k = 0; k < 6; k++) {
            x.corrupt(k, 77);
        }
        due("revisions()", 1, x::revisions);
        due("its user", 0, () -> x.about(0, 1));
        due("its lock", NONE, () -> x.about(0, 2));
        due("its text", "5", () -> textOf(x, 0));
        due("a change", 6, () -> x.lock(0, 0));
        due("writes them anew", "1 0 0 1 1 5", () -> bytesOf(x, false));
    }

    private static void corruptOut() {
        says("IndexOutOfBoundsException when there is no byte k");
        for (int k : new int[] {15, 16, 399, 400, -1, LOW, HIGH}) {
            changesNothing("corrupt(" + k + ", 0)", OUT, Sentences::withAll, x -> corrupted(x, k, 0));
        }
        due("behind the smallest file", OUT, () -> corrupted(new DeltaHistory(), 1, 0));
        due("behind the greatest file", OUT, () -> corrupted(full(), 400, 0));
    }

    private static void corruptOfNoByte() {
        says("IllegalArgumentException when b is not 0 .. 255");
        for (int b : new int[] {256, 257, 1000, -1, -128, LOW, HIGH}) {
            changesNothing("corrupt(0, " + b + ")", ARGUMENT, Sentences::withAll, x -> corrupted(x, 0, b));
        }
    }

    private static void loadReadsTheFile() {
        says("Reads the file: if it is one that can be written for some revisions (any that can come about, with any"
            + " texts, users and locks), these are the revisions from now on, and it answers how many; otherwise"
            + " nothing changes, and it answers NONE.");
        DeltaHistory x = withFirst(5);
        x.lock(1, 0);
        put(x, 6);
        x.crashAfter(17);
        due("a checkIn that is whole aside", CRASHED, () -> x.checkIn(1, 0));
        due("how much is aside", 17, () -> x.size(true));
        due("the file is read, not aside", 1, x::load);
        due("revisions()", 1, x::revisions);
        due("its lock", 1, () -> x.about(0, 2));
        due("aside stays", 17, () -> x.size(true));
        x.corrupt(5, 100);
        due("though aside can be read", NONE, x::load);
        due("its text", "5", () -> textOf(x, 0));
        x.corrupt(5, 99);
        due("a file that can be written again", 1, x::load);
        due("its text", "99", () -> textOf(x, 0));
        due("the file stays", "1 0 0 2 1 99", () -> bytesOf(x, false));
    }

    private static void loadTakes() {
        says("these are the revisions from now on, and it answers how many");
        DeltaHistory none = new DeltaHistory();
        due("without revisions", 0, none::load);
        due("revisions()", 0, none::revisions);
        DeltaHistory x = withFile(twoBut(2, 3, 6, 2, 11, 50));
        due("load()", 2, x::load);
        due("revisions()", 2, x::revisions);
        due("the first one's user", 3, () -> x.about(0, 1));
        due("the second one's lock", 1, () -> x.about(1, 2));
        due("the first one's next", 1, () -> x.about(0, 4));
        due("the second one's next", NONE, () -> x.about(1, 4));
        due("the second one's name", "1.2", () -> nameOf(x, 1));
        due("the first one's text", "1 50 3", () -> textOf(x, 0));
        due("the second one's text", "1 3", () -> textOf(x, 1));
        due("who has it locked checks in", 2, () -> x.checkIn(1, 1));
        due("the file", "3 0 3 0 1 0 0 2 1 0 1 1 1 1 50 0 2 1 3", () -> bytesOf(x, false));
        DeltaHistory full = full();
        full.corrupt(399, 61);
        due("the greatest file", 20, full::load);
        due("its last text", "1 2 3 4 5 6 61", () -> textOf(full, 19));
    }

    private static void loadLeavesTheRest() {
        says("these are the revisions from now on");
        DeltaHistory x = withAll();
        due("load()", 2, x::load);
        due("the desk's text", "4 3", () -> deskOf(x));
        due("the delta", "(0 0 2)(1 2 1 4)", () -> stepsOf(x));
        due("aside", "2 0 0", () -> bytesOf(x, true));
        due("the user read", 3, () -> x.about(0, 1));
        due("the crash", CRASHED, () -> x.unlock(1, 0));
        due("aside", "2 0 3 0 1", () -> bytesOf(x, true));
    }

    private static void loadAgain() {
        says("these are the revisions from now on");
        DeltaHistory x = withParents(0, 0, 2);
        x.corrupt(7, 2);
        due("all on the trunk", 4, x::load);
        due("its branches", 0, () -> x.about(0, 5));
        due("the last one's name", "1.4", () -> nameOf(x, 3));
        x.corrupt(7, 3);
        due("a file that can't be written", NONE, x::load);
        x.corrupt(7, 1);
        for (int k = 0; k < 3; k++) {
            due("with a branch again", 4, x::load);
            due("its branches", 1, () -> x.about(0, 5));
            due("the last one's name", "1.1.1.2", () -> nameOf(x, 3));
        }
    }

    private static void loadAnyTextsUsersAndLocks() {
        says("with any texts, users and locks");
        for (int user = 0; user < 4; user++) {
            for (int lock = 0; lock <= 4; lock++) {
                loads("user " + user + " and lock + 1 = " + lock, 2, twoBut(2, user, 3, lock, 5, 3 - user, 6, lock));
            }
        }
        loads("no lines", 1, 1, 0, 0, 0, 0);
        loads("12 equal lines", 1, 1, 0, 0, 0, 12, 9, 9, 9, 9, 9, 9, 9, 9, 9, 9, 9, 9);
        loads("equal texts", 3, 3, 0, 0, 0, 1, 0, 0, 2, 0, 0, 0, 0, 1, 9);
        loads("the same line added once more", 2, twoBut(11, 1));
        loads("a line added at the end", 2, twoBut(9, 2));
        loads("two lines added, and a head of one", 2, twoBut(10, 2));
        loads("all lines left out", 2, 2, 0, 0, 0, 1, 0, 0, 1, 0, 0, 12, 12, 1, 2, 3, 4, 5, 6, 7, 8, 9, 10, 11, 12);
    }

    private static void loadAnyThatCanComeAbout() {
        says("any that can come about");
        loads("a branch", 3, 3, 0, 0, 0, 1, 0, 0, 1, 0, 0, 1, 1, 0, 1, 8, 1, 7, 1, 1, 2, 1, 9);
        DeltaHistory x = withFile(3, 0, 0, 0, 1, 0, 0, 1, 0, 0, 1, 1, 0, 1, 8, 1, 7, 1, 1, 2, 1, 9);
        x.load();
        due("the branch's name", "1.1.1.1", () -> nameOf(x, 2));
        due("the branches of 0", 1, () -> x.about(0, 5));
        due("the trunk's text", "8 7", () -> textOf(x, 0));
        due("the head's text", "7", () -> textOf(x, 1));
        due("the branch's text, from its parent's", "8 7 9", () -> textOf(x, 2));
        loads("a parent before its number", 4, 4, 0, 0, 0, 1, 0, 0, 2, 0, 0, 2, 0, 0, 0, 0, 0, 0);
        int[] parents = {0, 0, 1, 1, 3, 2, 3, 4, 5, 6, 7, 8, 9, 10, 11, 12, 13, 14, 15, 19};
        int[] bytes = new int[81];
        bytes[0] = 20;
        for (int k = 0; k < 20; k++) {
            bytes[1 + 3 * k] = parents[k] + (k == 0 ? 0 : 1);
        }
        bytes[58] = 19;
        loads("20 revisions on many branches", 20, bytes);
        bytes[58] = 20;
        loads("20 revisions, the last its own parent", NONE, bytes);
    }

    private static void loadOfWrongHeads() {
        says("otherwise nothing changes, and it answers NONE");
        int[][] heads = {{0, 0}, {0, 1}, {0, 3}, {0, 20}, {0, 21}, {0, 255}, {1, 1}, {1, 255}, {4, 0}, {4, 2}, {4, 255},
            {2, 4}, {2, 255}, {5, 4}, {5, 255}, {3, 5}, {3, 255}, {6, 5}, {6, 255}};
        for (int[] head : heads) {
            loads("byte " + head[0] + " = " + head[1], NONE, twoBut(head));
        }
    }

    private static void loadOfWrongSizes() {
        says("if it is one that can be written for some revisions");
        loads("the lines cut off", NONE, 1, 0, 0, 0, 2, 7);
        loads("a byte behind the lines", NONE, 1, 0, 0, 0, 1, 7, 7);
        loads("255 lines", NONE, 1, 0, 0, 0, 255, 7);
        loads("the texts cut off", NONE, 2, 0, 0, 0, 1, 0, 0, 0);
        loads("all but the number cut off", NONE, 20, 0, 0, 0, 0);
        loads("a step cut off", NONE, 2, 0, 0, 0, 1, 0, 0, 1, 0, 0);
        loads("lines of a step cut off", NONE, 2, 0, 0, 0, 1, 0, 0, 1, 1, 0, 3, 7);
        loads("the head cut off behind a step", NONE, 2, 0, 0, 0, 1, 0, 0, 1, 1, 0, 1, 7);
        loads("255 steps", NONE, twoBut(7, 255));
        loads("255 added", NONE, twoBut(10, 255));
        loads("three added, and the head cut off", NONE, twoBut(10, 3));
        loads("one line of the head, and a byte behind it", NONE, twoBut(12, 1));
        loads("three lines of the head", NONE, twoBut(12, 3));
        DeltaHistory x = new DeltaHistory();
        x.corrupt(0, 1);
        due("one revision in one byte", NONE, x::load);
    }

    /** 255 is right nowhere, and where it tells how many, it leads behind the last byte that there can be. */
    private static void loadBehindTheGreatestFile() {
        says("if it is one that can be written for some revisions");
        DeltaHistory x = full();
        for (int k = 0; k < 400; k++) {
            int each = k;
            if (each % 100 == 0) {
                x = full();
            }
            DeltaHistory with = x;
            int was = with.at(each, false);
            with.corrupt(each, 255);
            due("load() of 400 bytes with byte " + each + " = 255", NONE, with::load);
            with.corrupt(each, was);
        }
        due("load() with all as it was", 20, x::load);
    }

    private static void loadOfStepsThatCannotBeMade() {
        says("if it is one that can be written for some revisions");
        loads("a step that is neither 0 nor 1", NONE, 2, 0, 0, 0, 1, 0, 0, 1, 2, 0, 1, 2, 8, 9);
        loads("a step 255", NONE, 2, 0, 0, 0, 1, 0, 0, 1, 255, 0, 1, 2, 8, 9);
        loads("added behind the end", NONE, twoBut(9, 3));
        loads("added at 255", NONE, twoBut(9, 255));
        loads("left out up to the end", 2, 2, 0, 0, 0, 1, 0, 0, 1, 0, 1, 1, 2, 8, 9);
        loads("left out behind the end", NONE, 2, 0, 0, 0, 1, 0, 0, 1, 0, 2, 1, 2, 8, 9);
        loads("more left out than there is", NONE, 2, 0, 0, 0, 1, 0, 0, 1, 0, 1, 2, 2, 8, 9);
        loads("255 left out", NONE, 2, 0, 0, 0, 1, 0, 0, 1, 0, 0, 255, 2, 8, 9);
        loads("left out of no lines", NONE, 2, 0, 0, 0, 1, 0, 0, 1, 0, 0, 1, 0);
        loads("a step before the one before it", NONE, 2, 0, 0, 0, 1, 0, 0, 2, 0, 1, 1, 0, 0, 1, 2, 8, 9);
        loads("a line left out twice", NONE, 2, 0, 0, 0, 1, 0, 0, 2, 0, 0, 1, 0, 0, 1, 2, 8, 9);
        loads("added within what is left out", NONE, 2, 0, 0, 0, 1, 0, 0, 2, 0, 0, 2, 1, 1, 1, 7, 2, 8, 9);
    }

    private static void loadOfStepsThatAreNotTheDelta() {
        says("the steps, of the delta that makes its text");
        loads("a step that leaves none out", NONE, 2, 0, 0, 0, 1, 0, 0, 1, 0, 0, 0, 1, 8);
        loads("a step that adds none", NONE, 2, 0, 0, 0, 1, 0, 0, 1, 1, 0, 0, 1, 8);
        loads("two left out in two steps", NONE, 2, 0, 0, 0, 1, 0, 0, 2, 0, 0, 1, 0, 1, 1, 2, 8, 9);
        loads("two left out in one step", 2, 2, 0, 0, 0, 1, 0, 0, 1, 0, 0, 2, 2, 8, 9);
        loads("two added in two steps", NONE, 2, 0, 0, 0, 1, 0, 0, 2, 1, 0, 1, 7, 1, 0, 1, 6, 0);
        loads("two added in one step", 2, 2, 0, 0, 0, 1, 0, 0, 1, 1, 0, 2, 7, 6, 0);
        loads("left out, then added", 2, 2, 0, 0, 0, 1, 0, 0, 2, 0, 0, 1, 1, 1, 1, 7, 1, 8);
        loads("added, then left out", NONE, 2, 0, 0, 0, 1, 0, 0, 2, 1, 0, 1, 7, 0, 0, 1, 1, 8);
        loads("a line left out and added", NONE, 2, 0, 0, 0, 1, 0, 0, 2, 0, 0, 1, 1, 1, 1, 8, 1, 8);
        loads("the line behind added too early", NONE, twoBut(11, 3));
        loads("an equal line left out too early", NONE, 2, 0, 0, 0, 1, 0, 0, 1, 0, 0, 1, 2, 8, 8);
        loads("an equal line left out when it is due", 2, 2, 0, 0, 0, 1, 0, 0, 1, 0, 1, 1, 2, 8, 8);
        loads("changed places, the first one left out", 2, 2, 0, 0, 0, 1, 0, 0, 2, 0, 0, 1, 1, 2, 1, 8, 2, 8, 9);
        loads("changed places, the second one added first", NONE,
            2, 0, 0, 0, 1, 0, 0, 2, 1, 0, 1, 9, 0, 1, 1, 2, 8, 9);
        loads("a branch's steps that are not the delta", NONE,
            3, 0, 0, 0, 1, 0, 0, 1, 0, 0, 0, 1, 7, 2, 1, 0, 1, 9, 0, 0, 1);
        loads("a branch's steps that are the delta", 3,
            3, 0, 0, 0, 1, 0, 0, 1, 0, 0, 0, 1, 7, 2, 0, 0, 1, 1, 1, 1, 9);
    }

    private static void loadOtherwise() {
        says("otherwise nothing changes, and it answers NONE");
        int[][] wrongs = {{0, 0}, {0, 21}, {1, 1}, {4, 0}, {2, 4}, {6, 5}, {7, 2}, {8, 2}, {9, 3}, {10, 0}, {11, 100},
            {12, 3}, {14, 0}, {11, 3}};
        for (int[] wrong : wrongs) {
            changesNothing("load() with byte " + wrong[0] + " = " + wrong[1], NONE, () -> {
                DeltaHistory x = withAll();
                x.corrupt(wrong[0], wrong[1]);
                return x;
            }, x -> x.load());
        }
        changesNothing("load() of the greatest file, its last byte wrong", NONE, () -> {
            DeltaHistory x = full();
            x.corrupt(399, 100);
            return x;
        }, x -> x.load());
    }

    private static void size() {
        says("How many bytes are in the file, or aside.");
        DeltaHistory x = new DeltaHistory();
        due("the smallest file", 1, () -> x.size(false));
        due("nothing aside", 0, () -> x.size(true));
        x.crashAfter(5);
        x.checkIn(0, NONE);
        due("the file as it was", 1, () -> x.size(false));
        due("all of the new one aside", 5, () -> x.size(true));
        x.checkIn(0, NONE);
        due("the file", 5, () -> x.size(false));
        due("nothing aside", 0, () -> x.size(true));
        DeltaHistory full = full();
        due("the greatest file", 400, () -> full.size(false));
        full.crashAfter(400);
        full.lock(0, 0);
        due("all of it aside", 400, () -> full.size(true));
    }

    private static void at() {
        says("Byte k of the file, or aside");
        DeltaHistory x = withFirst(6, 99);
        x.crashAfter(7);
        x.lock(3, 0);
        int[] file = {1, 0, 0, 0, 2, 6, 99};
        int[] aside = {1, 0, 0, 4, 2, 6, 99};
        for (int k = 0; k < 7; k++) {
            int each = k;
            due("at(" + each + ", false)", file[each], () -> x.at(each, false));
            due("at(" + each + ", true)", aside[each], () -> x.at(each, true));
        }
        x.corrupt(0, 255);
        due("byte 255", 255, () -> x.at(0, false));
        due("corrupt writes over the file alone", 1, () -> x.at(0, true));
    }

    private static void atNone() {
        says("NONE when there is none.");
        DeltaHistory x = withFirst(6, 99);
        due("at(0, true) with nothing aside", NONE, () -> x.at(0, true));
        x.crashAfter(6);
        x.lock(0, 0);
        x.crashAfter(2);
        x.lock(0, 0);
        for (int k : new int[] {7, 8, 399, 400, 401, -1, LOW, HIGH}) {
            due("at(" + k + ", false)", NONE, () -> x.at(k, false));
        }
        for (int k : new int[] {2, 3, 5, 6, 400, -1, LOW, HIGH}) {
            due("at(" + k + ", true)", NONE, () -> x.at(k, true));
        }
        DeltaHistory full = full();
        due("behind the greatest file", NONE, () -> full.at(400, false));
        due("its last byte", 60, () -> full.at(399, false));
        DeltaHistory none = new DeltaHistory();
        due("behind the smallest file", NONE, () -> none.at(1, false));
    }
}
