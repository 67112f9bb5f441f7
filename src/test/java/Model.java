import java.util.ArrayList;
import java.util.Arrays;
import java.util.List;

/** The document once more, written from its words with lists and recursion: what the tests compare with. */
final class Model {
    static final String OUT = "throws.IndexOutOfBoundsException";
    static final String STATE = "throws.IllegalStateException";
    static final String ARGUMENT = "throws.IllegalArgumentException";
    static final String UNSUPPORTED = "throws.UnsupportedOperationException";

    static final class Revision {
        final int parent;
        final int user;
        int lock = -1;
        List<Integer> text;

        Revision(int parent, int user, List<Integer> text) {
            this.parent = parent;
            this.user = user;
            this.text = text;
        }

        Revision copy() {
            Revision copy = new Revision(parent, user, text);
            copy.lock = lock;
            return copy;
        }
    }

    List<Integer> desk = new ArrayList<>();
    List<Revision> revisions = new ArrayList<>();
    List<Integer> file = new ArrayList<>(List.of(0));
    List<Integer> aside = new ArrayList<>();
    List<List<Integer>> compared = new ArrayList<>();
    int crash = -1;

    private static boolean isLine(int line) {
        return line >= 1 && line <= 99;
    }

    String desk(int a, int b, int c) {
        List<Integer> text = new ArrayList<>();
        for (int word : new int[] {a, b, c}) {
            for (int part : new int[] {word >>> 24, word >>> 16, word >>> 8, word}) {
                if ((part & 255) != 0) {
                    text.add(part & 255);
                }
            }
        }
        if (!text.stream().allMatch(Model::isLine)) {
            return "false";
        }
        desk = text;
        return "true";
    }

    String insert(int before, int line) {
        if (!isLine(line) || desk.size() == 12 || before < 0 || before > desk.size()) {
            return "false";
        }
        desk.add(before, line);
        return "true";
    }

    String remove(int k) {
        return String.valueOf(k < 0 || k >= desk.size() ? -1 : desk.remove(k));
    }

    String line(int k) {
        return String.valueOf(k < 0 || k >= desk.size() ? -1 : desk.get(k));
    }

    private boolean exists(int revision) {
        return revision >= 0 && revision < revisions.size();
    }

    private List<Revision> copies() {
        List<Revision> copies = new ArrayList<>();
        revisions.forEach(r -> copies.add(r.copy()));
        return copies;
    }

    String lock(int user, int revision) {
        if (user < 0 || user > 3 || !exists(revision)) {
            return OUT;
        }
        if (revisions.get(revision).lock != -1) {
            return STATE;
        }
        List<Revision> after = copies();
        after.get(revision).lock = user;
        return change(after, encode(after).size());
    }

    String unlock(int user, int revision) {
        if (user < 0 || user > 3 || !exists(revision)) {
            return OUT;
        }
        if (revisions.get(revision).lock != user) {
            return STATE;
        }
        List<Revision> after = copies();
        after.get(revision).lock = -1;
        return change(after, encode(after).size());
    }

    String checkIn(int user, int revision) {
        boolean isFirst = revisions.isEmpty() && revision == -1;
        if (user < 0 || user > 3 || !isFirst && !exists(revision)) {
            return OUT;
        }
        if (!isFirst && revisions.get(revision).lock != user) {
            return STATE;
        }
        List<Revision> after = copies();
        if (!isFirst) {
            after.get(revision).lock = -1;
        }
        after.add(new Revision(revision, user, List.copyOf(desk)));
        if (after.size() > 20 || encode(after).size() > 400) {
            return UNSUPPORTED;
        }
        return change(after, after.size() - 1);
    }

    private String change(List<Revision> after, int answer) {
        List<Integer> bytes = encode(after);
        int n = crash;
        crash = -1;
        if (n != -1 && bytes.size() >= n) {
            aside = bytes.subList(0, n);
            return "-2";
        }
        file = bytes;
        aside = new ArrayList<>();
        revisions = after;
        return n != -1 && bytes.size() == n - 1 ? "-2" : String.valueOf(answer);
    }

    String checkOut(int revision) {
        if (!exists(revision)) {
            return OUT;
        }
        desk = new ArrayList<>(revisions.get(revision).text);
        return String.valueOf(desk.size());
    }

    String crashAfter(int n) {
        if (n < -1) {
            return "false";
        }
        crash = n;
        return "true";
    }

    String corrupt(int k, int b) {
        if (k < 0 || k >= file.size()) {
            return OUT;
        }
        if (b < 0 || b > 255) {
            return ARGUMENT;
        }
        file = new ArrayList<>(file);
        file.set(k, b);
        return "null";
    }

    String load() {
        List<Revision> read;
        try {
            read = decode(file);
        } catch (RuntimeException e) {
            return "-1";
        }
        if (!encode(read).equals(file)) {
            return "-1";
        }
        revisions = read;
        return String.valueOf(read.size());
    }

    String about(int revision, int what) {
        if (!exists(revision)) {
            return OUT;
        }
        Revision r = revisions.get(revision);
        List<Integer> children = children(revisions, revision);
        int[] answers = {r.parent, r.user, r.lock, nameOf(revision).size(),
                children.isEmpty() ? -1 : children.get(0), Math.max(0, children.size() - 1)};
        return String.valueOf(what < 0 || what > 5 ? -1 : answers[what]);
    }

    String name(int revision, int k) {
        if (!exists(revision)) {
            return OUT;
        }
        List<Integer> name = nameOf(revision);
        return String.valueOf(k < 0 || k >= name.size() ? 0 : name.get(k));
    }

    private List<Integer> nameOf(int revision) {
        int parent = revisions.get(revision).parent;
        if (parent == -1) {
            return new ArrayList<>(List.of(1, 1));
        }
        List<Integer> name = nameOf(parent);
        int rank = children(revisions, parent).indexOf(revision);
        if (rank == 0) {
            name.set(name.size() - 1, name.get(name.size() - 1) + 1);
        } else {
            name.addAll(List.of(rank, 1));
        }
        return name;
    }

    String root(int one, int two) {
        if (!exists(one) || !exists(two)) {
            return OUT;
        }
        List<Integer> common = origins(one);
        common.retainAll(origins(two));
        return String.valueOf(common.stream().max(Integer::compare).get());
    }

    private List<Integer> origins(int revision) {
        List<Integer> origins = new ArrayList<>();
        for (int r = revision; r != -1; r = revisions.get(r).parent) {
            origins.add(r);
        }
        return origins;
    }

    String compare(int revision) {
        if (revision != -1 && !exists(revision)) {
            return OUT;
        }
        compared = delta(revision == -1 ? List.of() : revisions.get(revision).text, desk);
        return String.valueOf(compared.size());
    }

    String step(int k, int what) {
        boolean has = k >= 0 && k < compared.size() && what >= 0 && what < compared.get(k).size();
        return String.valueOf(has ? compared.get(k).get(what) : -1);
    }

    String size(boolean ofAside) {
        return String.valueOf((ofAside ? aside : file).size());
    }

    String at(int k, boolean ofAside) {
        List<Integer> bytes = ofAside ? aside : file;
        return String.valueOf(k < 0 || k >= bytes.size() ? -1 : bytes.get(k));
    }

    static List<Integer> children(List<Revision> of, int revision) {
        List<Integer> children = new ArrayList<>();
        for (int k = 0; k < of.size(); k++) {
            if (of.get(k).parent == revision) {
                children.add(k);
            }
        }
        return children;
    }

    static List<Integer> trunk(List<Revision> of) {
        List<Integer> trunk = new ArrayList<>();
        for (List<Integer> on = children(of, -1); !on.isEmpty(); on = children(of, on.get(0))) {
            trunk.add(on.get(0));
        }
        return trunk;
    }

    private static int most(List<Integer> a, List<Integer> b, int i, int j, int[][] known) {
        if (i == a.size() || j == b.size()) {
            return 0;
        }
        if (known[i][j] == 0) {
            int best = Math.max(most(a, b, i + 1, j, known), most(a, b, i, j + 1, known));
            if (a.get(i).equals(b.get(j))) {
                best = Math.max(best, 1 + most(a, b, i + 1, j + 1, known));
            }
            known[i][j] = best + 1;
        }
        return known[i][j] - 1;
    }

    static List<List<Integer>> delta(List<Integer> a, List<Integer> b) {
        int[][] known = new int[a.size() + 1][b.size() + 1];
        StringBuilder way = new StringBuilder();
        int i = 0;
        int j = 0;
        while (i < a.size() || j < b.size()) {
            boolean both = i < a.size() && j < b.size();
            if (both && a.get(i).equals(b.get(j))) {
                way.append('=');
                i++;
                j++;
            } else if (i < a.size()
                    && (!both || most(a, b, i + 1, j, known) >= most(a, b, i, j + 1, known))) {
                way.append('-');
                i++;
            } else {
                way.append('+');
                j++;
            }
        }
        return steps(way.toString(), b);
    }

    private static List<List<Integer>> steps(String way, List<Integer> b) {
        List<List<Integer>> steps = new ArrayList<>();
        int i = 0;
        int j = 0;
        for (int k = 0; k < way.length(); k++) {
            char c = way.charAt(k);
            boolean begins = k == 0 || way.charAt(k - 1) != c;
            if (c != '=' && begins) {
                steps.add(new ArrayList<>(List.of(c == '-' ? 0 : 1, i, 0)));
            }
            if (c != '=') {
                List<Integer> last = steps.get(steps.size() - 1);
                last.set(2, last.get(2) + 1);
                if (c == '+') {
                    last.add(b.get(j));
                }
            }
            i += c == '+' ? 0 : 1;
            j += c == '-' ? 0 : 1;
        }
        return steps;
    }

    static List<Integer> encode(List<Revision> of) {
        List<Integer> bytes = new ArrayList<>(List.of(of.size()));
        of.forEach(r -> bytes.addAll(List.of(r.parent + 1, r.user, r.lock + 1)));
        List<Integer> trunk = trunk(of);
        for (int k = 0; k < of.size(); k++) {
            Revision r = of.get(k);
            int onTrunk = trunk.indexOf(k);
            if (onTrunk == trunk.size() - 1) {
                bytes.add(r.text.size());
                bytes.addAll(r.text);
            } else {
                int source = onTrunk >= 0 ? trunk.get(onTrunk + 1) : r.parent;
                List<List<Integer>> steps = delta(of.get(source).text, r.text);
                bytes.add(steps.size());
                steps.forEach(bytes::addAll);
            }
        }
        return bytes;
    }

    /** Throws where the bytes make no revisions at all; the caller looks whether they are told as is due. */
    static List<Revision> decode(List<Integer> bytes) {
        int[] at = {0};
        int count = bytes.get(at[0]++);
        demand(count <= 20);
        List<Revision> read = new ArrayList<>();
        for (int k = 0; k < count; k++) {
            Revision r = new Revision(bytes.get(at[0]++) - 1, bytes.get(at[0]++), null);
            r.lock = bytes.get(at[0]++) - 1;
            demand(r.parent < k && (r.parent >= 0) == (k > 0) && r.user <= 3 && r.lock <= 3);
            read.add(r);
        }
        List<Integer> trunk = trunk(read);
        List<List<List<Integer>>> bodies = new ArrayList<>();
        for (int k = 0; k < count; k++) {
            bodies.add(readBody(bytes, at, trunk.get(trunk.size() - 1) == k));
        }
        demand(at[0] == bytes.size());
        while (read.stream().anyMatch(r -> r.text == null)) {
            makeTexts(read, trunk, bodies);
        }
        return read;
    }

    private static List<List<Integer>> readBody(List<Integer> bytes, int[] at, boolean whole) {
        int many = bytes.get(at[0]++);
        if (whole) {
            at[0] += many;
            return List.of(bytes.subList(at[0] - many, at[0]));
        }
        List<List<Integer>> steps = new ArrayList<>();
        for (int k = 0; k < many; k++) {
            demand(bytes.get(at[0]) <= 1);
            int length = 3 + (bytes.get(at[0]) == 1 ? bytes.get(at[0] + 2) : 0);
            steps.add(bytes.subList(at[0], at[0] + length));
            at[0] += length;
        }
        return steps;
    }

    private static void makeTexts(List<Revision> read, List<Integer> trunk, List<List<List<Integer>>> bodies) {
        for (int k = 0; k < read.size(); k++) {
            Revision r = read.get(k);
            int onTrunk = trunk.indexOf(k);
            if (onTrunk == trunk.size() - 1) {
                r.text = bodies.get(k).get(0);
            } else {
                int source = onTrunk >= 0 ? trunk.get(onTrunk + 1) : r.parent;
                if (read.get(source).text == null) {
                    continue;
                }
                r.text = applied(read.get(source).text, bodies.get(k));
            }
            demand(r.text.size() <= 12 && r.text.stream().allMatch(Model::isLine));
        }
    }

    private static List<Integer> applied(List<Integer> source, List<List<Integer>> steps) {
        boolean[] out = new boolean[source.size()];
        List<List<Integer>> before = new ArrayList<>();
        for (int k = 0; k <= source.size(); k++) {
            before.add(new ArrayList<>());
        }
        for (List<Integer> step : steps) {
            int place = step.get(1);
            if (step.get(0) == 0) {
                Arrays.fill(out, place, place + step.get(2), true);
            } else {
                before.get(place).addAll(step.subList(3, step.size()));
            }
        }
        List<Integer> text = new ArrayList<>();
        for (int k = 0; k <= source.size(); k++) {
            text.addAll(before.get(k));
            if (k < source.size() && !out[k]) {
                text.add(source.get(k));
            }
        }
        return text;
    }

    private static void demand(boolean holds) {
        if (!holds) {
            throw new IllegalStateException();
        }
    }
}
