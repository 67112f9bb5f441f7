import java.util.Random;

/** Runs of calls, drawn with fixed seeds, on the program and on the model: every answer must be the same. */
public final class ModelTest {
    private static final Checks CHECKS = new Checks();
    private static final int CALLS = 512;

    private final Random random;
    private final int seed;
    private final DeltaHistory x = new DeltaHistory();
    private final Model m = new Model();
    private int calls;

    private ModelTest(int seed) {
        this.seed = seed;
        this.random = new Random(seed);
    }

    public static void main(String[] args) {
        for (int seed = 0; seed < 2000; seed++) {
            ModelTest run = new ModelTest(seed);
            int changes = new int[] {20, 60, 150, 300}[seed % 4];
            int spread = new int[] {2, 4, 12, 99}[seed / 4 % 4];
            for (int k = 0; k < changes; k++) {
                run.act(spread);
            }
            run.lookAtAll();
        }
        CHECKS.end();
    }

    private void due(String call, String want, java.util.concurrent.Callable<?> made) {
        if (calls++ < CALLS) {
            CHECKS.due("seed " + seed + ", call " + calls + ": " + call, want, made);
        }
    }

    private int near(int bound) {
        return random.nextInt(20) == 0 ? new int[] {-2, -1, bound, bound + 1, 99, Integer.MIN_VALUE,
            Integer.MAX_VALUE}[random.nextInt(7)] : random.nextInt(Math.max(1, bound));
    }

    private int word(int spread) {
        int word = 0;
        for (int k = 0; k < 4; k++) {
            word = word << 8 | (random.nextInt(3) == 0 ? 0 : 1 + random.nextInt(spread));
        }
        return random.nextInt(40) == 0 ? random.nextInt() : word;
    }

    private void act(int spread) {
        int count = m.revisions.size();
        switch (random.nextInt(16)) {
            case 0: case 1: desk(spread); break;
            case 2: case 3: insert(near(m.desk.size() + 1), 1 + near(spread)); break;
            case 4: remove(near(m.desk.size())); break;
            case 5: lock(near(4), near(count)); break;
            case 6: unlock(near(4), near(count)); break;
            case 7: case 8: case 9: case 10: lockAndCheckIn(near(4), near(count)); break;
            case 11: checkOut(near(count)); break;
            case 12: crash(); break;
            case 13: corruptAndLoad(); break;
            case 14: compareAndLook(near(count)); break;
            default: checkIn(near(4), random.nextInt(4) == 0 ? -1 : near(count)); break;
        }
    }

    private void desk(int spread) {
        int a = word(spread);
        int b = word(spread);
        int c = word(spread);
        due("desk(" + a + ", " + b + ", " + c + ")", m.desk(a, b, c), () -> x.desk(a, b, c));
    }

    private void insert(int before, int line) {
        due("insert(" + before + ", " + line + ")", m.insert(before, line), () -> x.insert(before, line));
    }

    private void remove(int k) {
        due("remove(" + k + ")", m.remove(k), () -> x.remove(k));
    }

    private void lock(int user, int r) {
        due("lock(" + user + ", " + r + ")", m.lock(user, r), () -> x.lock(user, r));
    }

    private void unlock(int user, int r) {
        due("unlock(" + user + ", " + r + ")", m.unlock(user, r), () -> x.unlock(user, r));
    }

    private void checkIn(int user, int r) {
        due("checkIn(" + user + ", " + r + ")", m.checkIn(user, r), () -> x.checkIn(user, r));
    }

    private void lockAndCheckIn(int user, int r) {
        if (m.revisions.isEmpty()) {
            checkIn(user, -1);
            return;
        }
        boolean isLocked = r >= 0 && r < m.revisions.size() && m.revisions.get(r).lock != -1;
        int holder = isLocked ? m.revisions.get(r).lock : user;
        if (!isLocked) {
            lock(user, r);
        }
        checkIn(holder, r);
    }

    private void checkOut(int r) {
        due("checkOut(" + r + ")", m.checkOut(r), () -> x.checkOut(r));
    }

    private void crash() {
        int n = random.nextInt(3) == 0 ? near(5) : m.file.size() - 12 + random.nextInt(40);
        due("crashAfter(" + n + ")", m.crashAfter(n), () -> x.crashAfter(n));
    }

    private void corruptAndLoad() {
        int k = near(m.file.size());
        int b = random.nextInt(10) == 0 ? near(256) : random.nextInt(6);
        int was = k >= 0 && k < m.file.size() ? m.file.get(k) : 0;
        due("corrupt(" + k + ", " + b + ")", m.corrupt(k, b), () -> {
            x.corrupt(k, b);
            return null;
        });
        due("load()", m.load(), x::load);
        if (random.nextInt(3) != 0) {
            due("corrupt(" + k + ", " + was + ")", m.corrupt(k, was), () -> {
                x.corrupt(k, was);
                return null;
            });
            due("load()", m.load(), x::load);
        }
    }

    private void compareAndLook(int r) {
        int from = random.nextInt(5) == 0 ? -1 : r;
        due("compare(" + from + ")", m.compare(from), () -> x.compare(from));
        for (int n = 0; n < 4; n++) {
            int k = near(m.compared.size());
            int what = near(5);
            due("step(" + k + ", " + what + ")", m.step(k, what), () -> x.step(k, what));
        }
    }

    private void lookAtAll() {
        due("revisions()", String.valueOf(m.revisions.size()), x::revisions);
        due("lines()", String.valueOf(m.desk.size()), x::lines);
        due("size(false)", m.size(false), () -> x.size(false));
        due("size(true)", m.size(true), () -> x.size(true));
        int count = m.revisions.size();
        for (int n = 0; n < 12; n++) {
            int r = near(count);
            int other = near(count);
            int k = near(7);
            int line = n;
            due("about(" + r + ", " + k + ")", m.about(r, k), () -> x.about(r, k));
            due("name(" + r + ", " + k + ")", m.name(r, k), () -> x.name(r, k));
            due("root(" + r + ", " + other + ")", m.root(r, other), () -> x.root(r, other));
            due("line(" + line + ")", m.line(line), () -> x.line(line));
            compareAndLook(r);
        }
        int from = random.nextInt(m.file.size());
        for (int n = 0; n < CALLS; n++) {
            int k = from + n / 2;
            boolean aside = n % 2 == 1;
            due("at(" + k + ", " + aside + ")", m.at(k, aside), () -> x.at(k, aside));
        }
    }
}
