/** Promises 7 to 9 and 11: the changes, and the crash that is set for one. */
public final class ChangeTest extends Sentences {
    public static void main(String[] args) {
        lockAnswers();
        lockOut();
        lockOfWhatIsLocked();
        unlockAnswers();
        unlockOut();
        unlockOfWhatIsNotLocked();
        checkInMakesARevision();
        checkInGivesTheLockUp();
        checkInOfTheFirst();
        checkInOut();
        checkInWithoutLock();
        checkInOfMoreThanTwenty();
        checkInOfMoreThan400Bytes();
        crashAfterSets();
        crashAfterNone();
        crashAfterRefuses();
        CHECKS.end();
    }

    private static void lockAnswers() {
        says("A user locks a revision; answers the size of the file, or CRASHED.");
        DeltaHistory x = withFirst(1, 2);
        due("lock(3, 0)", 7, () -> x.lock(3, 0));
        due("its lock", 3, () -> x.about(0, 2));
        due("the file", "1 0 0 4 2 1 2", () -> bytesOf(x, false));
        due("the smallest file", 5, () -> withFirst().lock(0, 0));
        due("the greatest file", 400, () -> full().lock(0, 19));
        due("by who has another locked", 9, () -> {
            DeltaHistory y = withParents(0);
            y.lock(0, 0);
            return y.lock(0, 1);
        });
        DeltaHistory y = withFirst(1, 2);
        y.crashAfter(7);
        due("crashed", CRASHED, () -> y.lock(3, 0));
        due("no lock", NONE, () -> y.about(0, 2));
        y.crashAfter(8);
        due("crashed behind the last byte", CRASHED, () -> y.lock(3, 0));
        due("its lock", 3, () -> y.about(0, 2));
    }

    private static void lockOut() {
        says("IndexOutOfBoundsException when there is no such user or revision");
        for (int user : NO_USERS) {
            changesNothing("lock(" + user + ", 1)", OUT, Sentences::withAll, x -> x.lock(user, 1));
        }
        for (int revision : new int[] {2, 19, 20, -1, LOW, HIGH}) {
            changesNothing("lock(0, " + revision + ")", OUT, Sentences::withAll, x -> x.lock(0, revision));
        }
        due("lock(0, 0) without revisions", OUT, () -> new DeltaHistory().lock(0, 0));
        DeltaHistory twenty = trunkOf(20);
        due("lock of the twentieth", 81, () -> twenty.lock(0, 19));
        due("lock of a twenty first", OUT, () -> twenty.lock(0, 20));
    }

    private static void lockOfWhatIsLocked() {
        says("IllegalStateException when it is locked.");
        for (int owner = 0; owner < 4; owner++) {
            DeltaHistory x = withFirst();
            x.lock(owner, 0);
            for (int user = 0; user < 4; user++) {
                int each = user;
                due("lock of user " + each + ", locked by " + owner, STATE, () -> x.lock(each, 0));
            }
            int whose = owner;
            due("whose it still is", whose, () -> x.about(0, 2));
        }
    }

    private static void unlockAnswers() {
        says("A user gives a lock up; answers the size of the file, or CRASHED.");
        for (int user = 0; user < 4; user++) {
            int each = user;
            DeltaHistory x = withFirst(9);
            x.lock(each, 0);
            due("unlock of user " + each, 6, () -> x.unlock(each, 0));
            due("no lock", NONE, () -> x.about(0, 2));
            due("the file", "1 0 0 0 1 9", () -> bytesOf(x, false));
            due("it can be locked again", 6, () -> x.lock(3 - each, 0));
        }
        DeltaHistory y = withFirst(9);
        y.lock(2, 0);
        y.crashAfter(6);
        due("crashed", CRASHED, () -> y.unlock(2, 0));
        due("its lock", 2, () -> y.about(0, 2));
        y.crashAfter(7);
        due("crashed behind the last byte", CRASHED, () -> y.unlock(2, 0));
        due("no lock", NONE, () -> y.about(0, 2));
        due("the greatest file", 400, () -> {
            DeltaHistory z = full();
            z.lock(1, 19);
            return z.unlock(1, 19);
        });
    }

    private static void unlockOut() {
        says("IndexOutOfBoundsException when there is no such user or revision");
        for (int user : NO_USERS) {
            changesNothing("unlock(" + user + ", 0)", OUT, Sentences::withAll, x -> x.unlock(user, 0));
        }
        for (int revision : new int[] {2, 19, 20, -1, LOW, HIGH}) {
            changesNothing("unlock(1, " + revision + ")", OUT, Sentences::withAll, x -> x.unlock(1, revision));
        }
        due("unlock(0, 0) without revisions", OUT, () -> new DeltaHistory().unlock(0, 0));
    }

    private static void unlockOfWhatIsNotLocked() {
        says("IllegalStateException when the user does not have it locked.");
        due("locked by none", STATE, () -> withFirst().unlock(0, 0));
        DeltaHistory x = withParents(0);
        x.lock(2, 0);
        for (int user : new int[] {0, 1, 3}) {
            due("unlock of user " + user + ", locked by 2", STATE, () -> x.unlock(user, 0));
        }
        due("another revision is locked", STATE, () -> x.unlock(2, 1));
        x.unlock(2, 0);
        due("unlock again", STATE, () -> x.unlock(2, 0));
    }

    private static void checkInMakesARevision() {
        says("A user checks the desk's text in from a revision, which is not locked any more then; answers the new"
            + " one's number, or CRASHED.");
        DeltaHistory x = withFirst(1, 2, 3, 4, 5);
        x.lock(1, 0);
        put(x, 2, 9, 3, 4, 5);
        due("checkIn(1, 0)", 1, () -> x.checkIn(1, 0));
        due("the file", "2 0 0 0 1 1 0 2 1 0 1 1 0 1 1 5 2 9 3 4 5", () -> bytesOf(x, false));
        due("its user", 1, () -> x.about(1, 1));
        x.remove(0);
        due("the desk's text goes on alone", "2 9 3 4 5", () -> textOf(x, 1));
        x.lock(3, 0);
        put(x);
        x.crashAfter(26);
        due("crashed", CRASHED, () -> x.checkIn(3, 0));
        due("revisions()", 2, x::revisions);
        due("the branches of 0", 0, () -> x.about(0, 5));
        x.crashAfter(29);
        due("crashed behind the last byte", CRASHED, () -> x.checkIn(3, 0));
        due("size(false)", 28, () -> x.size(false));
        due("revisions()", 3, x::revisions);
        due("no lines", "", () -> textOf(x, 2));
        add(x, 2, TWELVE);
        due("12 lines", "1 2 3 4 5 6 7 8 9 10 11 12", () -> textOf(x, 3));
    }

    private static void checkInGivesTheLockUp() {
        says("from a revision, which is not locked any more then");
        DeltaHistory x = withParents(0);
        x.lock(3, 0);
        x.lock(3, 1);
        x.crashAfter(5);
        due("crashed", CRASHED, () -> x.checkIn(3, 1));
        due("still locked", 3, () -> x.about(1, 2));
        due("checked in", 2, () -> x.checkIn(3, 1));
        due("not locked any more", NONE, () -> x.about(1, 2));
        due("the new one is not locked", NONE, () -> x.about(2, 2));
        due("another's lock stays", 3, () -> x.about(0, 2));
        due("not again without lock", STATE, () -> x.checkIn(3, 1));
        due("from what is still locked", 3, () -> x.checkIn(3, 0));
        x.lock(0, 3);
        x.crashAfter(22);
        due("done, and crashed", CRASHED, () -> x.checkIn(0, 3));
        due("not locked any more", NONE, () -> x.about(3, 2));
    }

    private static void checkInOfTheFirst() {
        says("The first one is checked in from NONE.");
        DeltaHistory x = new DeltaHistory();
        put(x, TWELVE);
        due("checkIn(3, NONE)", 0, () -> x.checkIn(3, NONE));
        due("the file", "1 0 3 0 12 1 2 3 4 5 6 7 8 9 10 11 12", () -> bytesOf(x, false));
        due("its user", 3, () -> x.about(0, 1));
        due("its lock", NONE, () -> x.about(0, 2));
        DeltaHistory y = new DeltaHistory();
        y.crashAfter(0);
        due("crashed", CRASHED, () -> y.checkIn(0, NONE));
        due("revisions()", 0, y::revisions);
        due("the first one still", 0, () -> y.checkIn(0, NONE));
    }

    private static void checkInOut() {
        says("IndexOutOfBoundsException when there is no such user or revision (NONE when there are revisions)");
        for (int user : NO_USERS) {
            changesNothing("checkIn(" + user + ", 0)", OUT, Sentences::withAll, x -> x.checkIn(user, 0));
            changesNothing("the first checkIn(" + user + ", NONE)", OUT, DeltaHistory::new,
                x -> x.checkIn(user, NONE));
        }
        for (int revision : new int[] {NONE, -2, 2, 19, 20, LOW, HIGH}) {
            changesNothing("checkIn(1, " + revision + ")", OUT, Sentences::withAll, x -> x.checkIn(1, revision));
        }
        for (int revision : new int[] {0, 1, -2, LOW, HIGH}) {
            changesNothing("the first checkIn(0, " + revision + ")", OUT, DeltaHistory::new,
                x -> x.checkIn(0, revision));
        }
        due("from NONE, one revision", OUT, () -> withFirst().checkIn(0, NONE));
        due("from NONE, 20 revisions", OUT, () -> trunkOf(20).checkIn(0, NONE));
    }

    private static void checkInWithoutLock() {
        says("IllegalStateException when the user does not have it locked");
        due("locked by none", STATE, () -> withFirst().checkIn(0, 0));
        DeltaHistory x = withParents(0);
        x.lock(2, 0);
        for (int user : new int[] {0, 1, 3}) {
            due("checkIn of user " + user + ", locked by 2", STATE, () -> x.checkIn(user, 0));
        }
        due("another revision is locked", STATE, () -> x.checkIn(2, 1));
        due("revisions()", 2, x::revisions);
    }

    private static void checkInOfMoreThanTwenty() {
        says("UnsupportedOperationException when there are 20");
        DeltaHistory x = trunkOf(19);
        due("the twentieth", 19, () -> add(x, 18));
        x.lock(1, 19);
        x.lock(0, 0);
        due("the twenty first, a next", UNSUPPORTED, () -> x.checkIn(1, 19));
        due("the twenty first, a branch", UNSUPPORTED, () -> x.checkIn(0, 0));
        due("its lock stays", 1, () -> x.about(19, 2));
        due("no next", NONE, () -> x.about(19, 4));
        due("no branch", 0, () -> x.about(0, 5));
        due("size(false)", 81, () -> x.size(false));
    }

    private static void checkInOfMoreThan400Bytes() {
        says("UnsupportedOperationException when there are 20, or the file would have more than 400 bytes.");
        for (int size = 400; size <= 405; size++) {
            DeltaHistory x = nearlyFull(size);
            boolean fits = size <= 400;
            due("checkIn of " + size + " bytes", fits ? 19 : UNSUPPORTED, () -> x.checkIn(0, 0));
            due("size(false)", fits ? size : 389, () -> x.size(false));
            due("size(true)", 0, () -> x.size(true));
            due("revisions()", fits ? 20 : 19, x::revisions);
            due("the branches of 0", fits ? 18 : 17, () -> x.about(0, 5));
            due("its lock", fits ? NONE : 0, () -> x.about(0, 2));
        }
        trunkOfMoreThan400Bytes(10, true);
        trunkOfMoreThan400Bytes(11, false);
        DeltaHistory fewer = withFirst(TWELVE);
        for (int k = 1; k < 18; k++) {
            add(fewer, 0, OTHER_TWELVE);
        }
        due("18 revisions", 1 + 54 + 19 + 13 + 16 * 19, () -> fewer.size(false));
        fewer.lock(0, 17);
        put(fewer, TWELVE);
        due("checkIn of 413 bytes, the nineteenth", UNSUPPORTED, () -> fewer.checkIn(0, 17));
        fewer.checkOut(17);
        due("checkIn of 395 bytes, the nineteenth", 18, () -> fewer.checkIn(0, 17));
    }

    /** The next of the head: what was whole becomes a delta, and so the file grows by less than a text. */
    private static void trunkOfMoreThan400Bytes(int lines, boolean fits) {
        DeltaHistory x = withFirst(TWELVE);
        add(x, 0, TWELVE);
        for (int k = 0; k < 16; k++) {
            add(x, 0, OTHER_TWELVE);
        }
        add(x, 0, java.util.Arrays.copyOf(TWELVE, 11));
        due("19 revisions", 21 + 16 * 22 + 7, () -> x.size(false));
        put(x, java.util.Arrays.copyOf(OTHER_TWELVE, lines));
        for (int k = 1; k <= 12 - lines; k++) {
            x.insert(x.lines(), k);
        }
        x.lock(0, 1);
        int size = 380 + 3 + 1 + 3 + 3 + lines;
        due("checkIn of " + size + " bytes from the head", fits ? 19 : UNSUPPORTED, () -> x.checkIn(0, 1));
        due("the next of the head", fits ? 19 : NONE, () -> x.about(1, 4));
        due("size(false)", fits ? size : 380, () -> x.size(false));
    }

    private static void crashAfterSets() {
        says("Sets a crash for n, in place of one that is set");
        DeltaHistory x = withFirst(7, 8);
        due("crashAfter(2)", true, () -> x.crashAfter(2));
        due("crashAfter(4)", true, () -> x.crashAfter(4));
        due("lock", CRASHED, () -> x.lock(1, 0));
        due("aside", "1 0 0 2", () -> bytesOf(x, true));
        x.crashAfter(1);
        due("crashAfter(HIGH)", true, () -> x.crashAfter(HIGH));
        due("lock", 7, () -> x.lock(1, 0));
        x.crashAfter(1);
        due("crashAfter(0)", true, () -> x.crashAfter(0));
        due("unlock", CRASHED, () -> x.unlock(1, 0));
        due("aside", 0, () -> x.size(true));
        x.crashAfter(8);
        x.load();
        x.checkOut(0);
        x.insert(0, 1);
        x.compare(0);
        x.corrupt(0, 9);
        due("what is no change leaves it set", CRASHED, () -> x.unlock(1, 0));
        due("all is done", "1 0 0 0 2 7 8", () -> bytesOf(x, false));
    }

    private static void crashAfterNone() {
        says("NONE: none is set.");
        DeltaHistory x = withFirst(7, 8);
        x.crashAfter(0);
        due("crashAfter(NONE)", true, () -> x.crashAfter(NONE));
        due("lock", 7, () -> x.lock(1, 0));
        due("crashAfter(NONE) where none is set", true, () -> x.crashAfter(NONE));
        due("unlock", 7, () -> x.unlock(1, 0));
    }

    private static void crashAfterRefuses() {
        says("False, refused, when n is less than -1.");
        for (int n : new int[] {-2, -3, LOW}) {
            changesNothing("crashAfter(" + n + ")", false, Sentences::withAll, x -> x.crashAfter(n));
            changesNothing("crashAfter(" + n + ") where none is set", false, DeltaHistory::new,
                x -> x.crashAfter(n));
        }
        due("crashAfter(-1)", true, () -> new DeltaHistory().crashAfter(-1));
        due("crashAfter(0)", true, () -> new DeltaHistory().crashAfter(0));
    }
}
