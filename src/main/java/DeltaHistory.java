/**
 * The revisions of a text of lines, kept in one file that a crash can never leave half written.
 * README.md tells how it is used, and how the state is held.
 */
public final class DeltaHistory {
    public static final int NONE = -1;
    public static final int CRASHED = -2;

    private static final int USERS = 4;
    private static final int MOST_REVISIONS = 20;
    private static final int MOST_LINES = 12;
    private static final int HIGHEST_LINE = 99;
    private static final int MOST_BYTES = 400;
    private static final int HIGHEST_BYTE = 255;
    private static final int LEAVE_OUT = 0;
    private static final int ADD = 1;

    private final Text deskText = new Text();
    private final Text typed = new Text();
    private final Text empty = new Text();
    private final Delta compared = new Delta();
    private final Bytes file = new Bytes();
    private final Bytes fileAside = new Bytes();
    private final Bytes draft = new Bytes();
    private final Writer writer = new Writer();
    private final Reader reader = new Reader();
    // A change is made in the planned history, so that one that comes to nothing needs no undoing.
    private History current = new History();
    private History planned = new History();
    private int crash;

    public DeltaHistory() {
        file.put(0);
        crash = NONE;
    }

    public boolean desk(int a, int b, int c) {
        typed.clear();
        if (!typed.appendBytes(a) || !typed.appendBytes(b) || !typed.appendBytes(c)) {
            return false;
        }
        deskText.become(typed);
        return true;
    }

    public boolean insert(int before, int line) {
        return deskText.putIn(before, line);
    }

    public int remove(int k) {
        return deskText.takeOut(k);
    }

    public int lines() {
        return deskText.count;
    }

    public int line(int k) {
        return deskText.lineAt(k);
    }

    public int lock(int user, int revision) throws IndexOutOfBoundsException, IllegalStateException {
        requireUser(user);
        requireRevision(revision);
        if (current.all[revision].lock != NONE) {
            throw new IllegalStateException();
        }
        return changeLock(revision, user);
    }

    public int unlock(int user, int revision) throws IndexOutOfBoundsException, IllegalStateException {
        requireUser(user);
        requireRevision(revision);
        requireLock(user, revision);
        return changeLock(revision, NONE);
    }

    public int checkIn(int user, int revision)
            throws IndexOutOfBoundsException, IllegalStateException, UnsupportedOperationException {
        requireUser(user);
        boolean first = revision == NONE && current.count == 0;
        if (!first) {
            requireRevision(revision);
            requireLock(user, revision);
        }
        if (current.count >= MOST_REVISIONS) {
            throw new UnsupportedOperationException();
        }
        planned.become(current);
        int number = planned.append(revision, user);
        planned.all[number].text.become(deskText);
        if (!first) {
            planned.all[revision].lock = NONE;
        }
        writer.write(planned, draft);
        if (!draft.fits()) {
            throw new UnsupportedOperationException();
        }
        return carryOut(number);
    }

    public int checkOut(int revision) throws IndexOutOfBoundsException {
        requireRevision(revision);
        deskText.become(current.all[revision].text);
        return deskText.count;
    }

    public boolean crashAfter(int n) {
        if (n < NONE) {
            return false;
        }
        crash = n;
        return true;
    }

    public void corrupt(int k, int b) throws IndexOutOfBoundsException, IllegalArgumentException {
        if (!file.has(k)) {
            throw new IndexOutOfBoundsException();
        }
        if (b < 0 || b > HIGHEST_BYTE) {
            throw new IllegalArgumentException();
        }
        file.row[k] = b;
    }

    public int load() {
        if (!reader.read(file, planned)) {
            return NONE;
        }
        // What was read may still be told in another way than a change would write it.
        writer.write(planned, draft);
        if (!draft.isSameAs(file)) {
            return NONE;
        }
        takePlanned();
        return current.count;
    }

    public int revisions() {
        return current.count;
    }

    public int about(int revision, int what) throws IndexOutOfBoundsException {
        requireRevision(revision);
        Revision of = current.all[revision];
        switch (what) {
            case 0:
                return of.parent;
            case 1:
                return of.user;
            case 2:
                return of.lock;
            case 3:
                return of.nameLength;
            case 4:
                return of.next;
            case 5:
                return of.branches;
            default:
                return NONE;
        }
    }

    public int name(int revision, int k) throws IndexOutOfBoundsException {
        requireRevision(revision);
        return current.nameNumber(revision, k);
    }

    public int root(int one, int two) throws IndexOutOfBoundsException {
        requireRevision(one);
        requireRevision(two);
        return current.commonOrigin(one, two);
    }

    public int compare(int revision) throws IndexOutOfBoundsException {
        if (revision == NONE) {
            compared.make(empty, deskText);
        } else {
            requireRevision(revision);
            compared.make(current.all[revision].text, deskText);
        }
        return compared.steps;
    }

    public int step(int k, int what) {
        return compared.numberOf(k, what);
    }

    public int size(boolean aside) {
        return aside ? fileAside.count : file.count;
    }

    public int at(int k, boolean aside) {
        return aside ? fileAside.byteAt(k) : file.byteAt(k);
    }

    private static void requireUser(int user) {
        if (user < 0 || user >= USERS) {
            throw new IndexOutOfBoundsException();
        }
    }

    private void requireRevision(int revision) {
        if (!current.has(revision)) {
            throw new IndexOutOfBoundsException();
        }
    }

    private void requireLock(int user, int revision) {
        if (current.all[revision].lock != user) {
            throw new IllegalStateException();
        }
    }

    private int changeLock(int revision, int lock) {
        planned.become(current);
        planned.all[revision].lock = lock;
        writer.write(planned, draft);
        return carryOut(draft.count);
    }

    /** Puts the planned history, which the draft tells, in force, unless the crash comes first. */
    private int carryOut(int answer) {
        int crashAt = crash;
        crash = NONE;
        if (crashAt != NONE && crashAt <= draft.count) {
            fileAside.becomeFirst(draft, crashAt);
            return CRASHED;
        }
        file.becomeFirst(draft, draft.count);
        fileAside.clear();
        takePlanned();
        return crashAt == draft.count + 1 ? CRASHED : answer;
    }

    private void takePlanned() {
        History before = current;
        current = planned;
        planned = before;
    }

    /** A row of lines; what it takes in is always a line, and never one too many. */
    static final class Text {
        final int[] row = new int[MOST_LINES];
        int count;

        void clear() {
            count = 0;
        }

        void become(Text other) {
            System.arraycopy(other.row, 0, row, 0, other.count);
            count = other.count;
        }

        int lineAt(int k) {
            return k >= 0 && k < count ? row[k] : NONE;
        }

        boolean append(int line) {
            if (line < 1 || line > HIGHEST_LINE || count >= MOST_LINES) {
                return false;
            }
            row[count] = line;
            count++;
            return true;
        }

        boolean putIn(int before, int line) {
            if (before < 0 || before > count || !append(line)) {
                return false;
            }
            System.arraycopy(row, before, row, before + 1, count - 1 - before);
            row[before] = line;
            return true;
        }

        int takeOut(int k) {
            if (k < 0 || k >= count) {
                return NONE;
            }
            int line = row[k];
            System.arraycopy(row, k + 1, row, k, count - k - 1);
            count--;
            return line;
        }

        boolean appendBytes(int word) {
            for (int shift = 24; shift >= 0; shift -= 8) {
                int line = (word >> shift) & HIGHEST_BYTE;
                if (line != 0 && !append(line)) {
                    return false;
                }
            }
            return true;
        }

        /** Appends the other text's lines from one on to before another; false where these can't be had. */
        boolean appendPart(Text other, int from, int to) {
            if (from < 0 || from > to || to > other.count) {
                return false;
            }
            for (int k = from; k < to; k++) {
                if (!append(other.row[k])) {
                    return false;
                }
            }
            return true;
        }
    }

    /** The steps from one text to another; it keeps what it needs of them, so that both may change. */
    static final class Delta {
        // Each step tells of one line at least.
        private static final int MOST_STEPS = 2 * MOST_LINES;

        final int[] kind = new int[MOST_STEPS];
        final int[] place = new int[MOST_STEPS];
        final int[] many = new int[MOST_STEPS];
        final int[] firstAdded = new int[MOST_STEPS];
        final int[] added = new int[MOST_LINES];
        final int[][] common = new int[MOST_LINES + 1][MOST_LINES + 1];
        int steps;
        int addedCount;
        boolean stepIsOpen;

        void make(Text from, Text to) {
            countCommon(from, to);
            steps = 0;
            addedCount = 0;
            stepIsOpen = false;
            int i = 0;
            int j = 0;
            for (int k = 0; k < MOST_STEPS && (i < from.count || j < to.count); k++) {
                if (i < from.count && j < to.count && from.row[i] == to.row[j]) {
                    stepIsOpen = false;
                    i++;
                    j++;
                } else if (i < from.count && (j == to.count || common[i + 1][j] >= common[i][j + 1])) {
                    countLine(LEAVE_OUT, i);
                    i++;
                } else {
                    countLine(ADD, i);
                    added[addedCount] = to.row[j];
                    addedCount++;
                    j++;
                }
            }
        }

        private void countCommon(Text from, Text to) {
            for (int i = from.count; i >= 0; i--) {
                for (int j = to.count; j >= 0; j--) {
                    if (i == from.count || j == to.count) {
                        common[i][j] = 0;
                    } else if (from.row[i] == to.row[j]) {
                        common[i][j] = common[i + 1][j + 1] + 1;
                    } else {
                        common[i][j] = Math.max(common[i + 1][j], common[i][j + 1]);
                    }
                }
            }
        }

        private void countLine(int lineKind, int linePlace) {
            if (stepIsOpen && kind[steps - 1] == lineKind) {
                many[steps - 1]++;
                return;
            }
            kind[steps] = lineKind;
            place[steps] = linePlace;
            many[steps] = 1;
            firstAdded[steps] = addedCount;
            steps++;
            stepIsOpen = true;
        }

        int numberOf(int k, int what) {
            if (k < 0 || k >= steps) {
                return NONE;
            }
            switch (what) {
                case 0:
                    return kind[k];
                case 1:
                    return place[k];
                case 2:
                    return many[k];
                default:
                    return addedLine(k, what - 3);
            }
        }

        int addedLine(int k, int number) {
            if (kind[k] != ADD || number < 0 || number >= many[k]) {
                return NONE;
            }
            return added[firstAdded[k] + number];
        }
    }

    /** A row of bytes with a place where it is read on. */
    static final class Bytes {
        final int[] row = new int[MOST_BYTES];
        int count;
        int position;

        void clear() {
            count = 0;
        }

        /** Counts what finds no room too, so that fits can tell. */
        void put(int b) {
            if (count < MOST_BYTES) {
                row[count] = b;
            }
            count++;
        }

        boolean fits() {
            return count <= MOST_BYTES;
        }

        boolean has(int k) {
            return k >= 0 && k < count && k < MOST_BYTES;
        }

        int byteAt(int k) {
            return has(k) ? row[k] : NONE;
        }

        void becomeFirst(Bytes other, int n) {
            clear();
            for (int k = 0; k < n && other.has(k); k++) {
                put(other.row[k]);
            }
        }

        boolean isSameAs(Bytes other) {
            if (count != other.count) {
                return false;
            }
            for (int k = 0; k < count; k++) {
                if (byteAt(k) != other.byteAt(k)) {
                    return false;
                }
            }
            return true;
        }

        /** The next byte; NONE behind the last one, which is no number that a file may have anywhere. */
        int take() {
            if (!has(position)) {
                return NONE;
            }
            int b = row[position];
            position++;
            return b;
        }
    }

    /** A revision; its name is that of its fork (the revision where its branch begins), branch and place. */
    static final class Revision {
        final Text text = new Text();
        int parent;
        int user;
        int lock;
        int next;
        int branches;
        int fork;
        int branch;
        int place;
        int nameLength;

        void become(Revision other) {
            text.become(other.text);
            parent = other.parent;
            user = other.user;
            lock = other.lock;
            next = other.next;
            branches = other.branches;
            fork = other.fork;
            branch = other.branch;
            place = other.place;
            nameLength = other.nameLength;
        }

        /** As the trunk's first one; what comes from another one is set right behind that. */
        void begin(int itsParent, int itsUser) {
            text.clear();
            parent = itsParent;
            user = itsUser;
            lock = NONE;
            next = NONE;
            branches = 0;
            fork = NONE;
            branch = 1;
            place = 1;
            nameLength = 2;
        }

        void follow(Revision before) {
            fork = before.fork;
            branch = before.branch;
            place = before.place + 1;
            nameLength = before.nameLength;
        }

        void branchOff(Revision origin) {
            fork = parent;
            branch = origin.branches;
            place = 1;
            nameLength = origin.nameLength + 2;
        }

        boolean isOnTrunk() {
            return fork == NONE;
        }

        /** The revision from whose text the file makes this one's; NONE of the head, which stands whole. */
        int source() {
            return isOnTrunk() ? next : parent;
        }
    }

    /** The revisions by their numbers; a parent's number is always below that of what comes from it. */
    static final class History {
        final Revision[] all = new Revision[MOST_REVISIONS];
        int count;

        History() {
            for (int k = 0; k < MOST_REVISIONS; k++) {
                all[k] = new Revision();
            }
        }

        void clear() {
            count = 0;
        }

        boolean has(int number) {
            return number >= 0 && number < count;
        }

        void become(History other) {
            count = other.count;
            for (int k = 0; k < count; k++) {
                all[k].become(other.all[k]);
            }
        }

        /** Appends a revision with no text yet, for which there must be room, and answers its number. */
        int append(int parent, int user) {
            int number = count;
            Revision fresh = all[number];
            fresh.begin(parent, user);
            if (has(parent)) {
                Revision origin = all[parent];
                if (origin.next == NONE) {
                    origin.next = number;
                    fresh.follow(origin);
                } else {
                    origin.branches++;
                    fresh.branchOff(origin);
                }
            }
            count++;
            return number;
        }

        int nameNumber(int number, int k) {
            Revision of = all[number];
            if (k < 0 || k >= of.nameLength) {
                return 0;
            }
            for (int depth = 0; depth < MOST_REVISIONS && k < of.nameLength - 2 && has(of.fork); depth++) {
                of = all[of.fork];
            }
            return k == of.nameLength - 1 ? of.place : of.branch;
        }

        int commonOrigin(int one, int two) {
            int a = one;
            int b = two;
            for (int k = 0; k < 2 * MOST_REVISIONS && a != b; k++) {
                // The greater one is not the other's origin, so the way leads over its parent.
                if (a > b) {
                    a = all[a].parent;
                } else {
                    b = all[b].parent;
                }
            }
            return a;
        }
    }

    /** Tells a history as the bytes of the file. */
    static final class Writer {
        final Delta delta = new Delta();

        void write(History history, Bytes to) {
            to.clear();
            to.put(history.count);
            for (int k = 0; k < history.count; k++) {
                Revision revision = history.all[k];
                to.put(revision.parent + 1);
                to.put(revision.user);
                to.put(revision.lock + 1);
            }
            for (int k = 0; k < history.count; k++) {
                Text text = history.all[k].text;
                int source = history.all[k].source();
                if (history.has(source)) {
                    delta.make(history.all[source].text, text);
                    writeDelta(to);
                } else {
                    writeText(text, to);
                }
            }
        }

        private void writeText(Text text, Bytes to) {
            to.put(text.count);
            for (int k = 0; k < text.count; k++) {
                to.put(text.row[k]);
            }
        }

        private void writeDelta(Bytes to) {
            to.put(delta.steps);
            for (int k = 0; k < delta.steps; k++) {
                to.put(delta.kind[k]);
                to.put(delta.place[k]);
                to.put(delta.many[k]);
                int addedLines = delta.kind[k] == ADD ? delta.many[k] : 0;
                for (int n = 0; n < addedLines; n++) {
                    to.put(delta.addedLine(k, n));
                }
            }
        }
    }

    /**
     * Makes a history out of bytes that may be anything. It only sees to it that the history is one that
     * can come about: deltas that would make the same texts in another way are told by writing it again.
     */
    static final class Reader {
        final int[] bodyStart = new int[MOST_REVISIONS];

        boolean read(Bytes from, History into) {
            from.position = 0;
            into.clear();
            return readHeads(from, into) && findBodies(from, into) && readBodies(from, into);
        }

        private boolean readHeads(Bytes from, History into) {
            int count = from.take();
            if (count < 0 || count > MOST_REVISIONS) {
                return false;
            }
            for (int k = 0; k < count; k++) {
                int parent = from.take() - 1;
                int user = from.take();
                int lock = from.take() - 1;
                boolean parentIsBefore = k == 0 ? parent == NONE : into.has(parent);
                if (!parentIsBefore || user < 0 || user >= USERS || lock < NONE || lock >= USERS) {
                    return false;
                }
                into.append(parent, user);
                into.all[k].lock = lock;
            }
            return true;
        }

        /** A text of the trunk rests on a later one's, so all bodies are found before one is read. */
        private boolean findBodies(Bytes from, History into) {
            for (int k = 0; k < into.count; k++) {
                bodyStart[k] = from.position;
                boolean isWhole = into.all[k].source() == NONE;
                if (!(isWhole ? passText(from) : passSteps(from))) {
                    return false;
                }
            }
            return from.position == from.count;
        }

        private boolean passText(Bytes from) {
            int many = from.take();
            if (many == NONE) {
                return false;
            }
            from.position += many;
            return true;
        }

        private boolean passSteps(Bytes from) {
            int steps = from.take();
            for (int k = 0; k < steps; k++) {
                int kind = from.take();
                from.take();
                int many = from.take();
                if (kind > ADD || many == NONE) {
                    return false;
                }
                if (kind == ADD) {
                    from.position += many;
                }
            }
            return steps != NONE;
        }

        private boolean readBodies(Bytes from, History into) {
            for (int k = into.count - 1; k >= 0; k--) {
                if (into.all[k].isOnTrunk() && !readBody(from, into, k)) {
                    return false;
                }
            }
            for (int k = 0; k < into.count; k++) {
                if (!into.all[k].isOnTrunk() && !readBody(from, into, k)) {
                    return false;
                }
            }
            return true;
        }

        private boolean readBody(Bytes from, History into, int number) {
            Text text = into.all[number].text;
            int source = into.all[number].source();
            from.position = bodyStart[number];
            return into.has(source) ? applySteps(from, into.all[source].text, text) : readLines(from, text);
        }

        private boolean readLines(Bytes from, Text text) {
            int many = from.take();
            for (int k = 0; k < many; k++) {
                if (!text.append(from.take())) {
                    return false;
                }
            }
            return true;
        }

        private boolean applySteps(Bytes from, Text source, Text text) {
            int steps = from.take();
            int passed = 0;
            for (int k = 0; k < steps; k++) {
                int kind = from.take();
                int place = from.take();
                if (!text.appendPart(source, passed, place)) {
                    return false;
                }
                passed = place;
                if (kind == LEAVE_OUT) {
                    passed += from.take();
                } else if (!readLines(from, text)) {
                    return false;
                }
            }
            return text.appendPart(source, passed, source.count);
        }
    }
}
