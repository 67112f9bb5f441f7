import java.util.ArrayList;
import java.util.HashSet;
import java.util.List;
import java.util.Random;
import java.util.Set;

/** Promise 13 from both sides: every file that can be written is loaded, and no other one. */
public final class LoadTest {
    private static final Checks CHECKS = new Checks();

    public static void main(String[] args) {
        for (int body = 2; body <= 8; body++) {
            everyBodyOfTwoRevisions(body);
        }
        everyHeadOfThreeRevisions();
        filesOfOtherHistories();
        CHECKS.end();
    }

    /** All texts of lines 1 .. 3 of up to so many lines. */
    static List<List<Integer>> texts(int most) {
        List<List<Integer>> texts = new ArrayList<>();
        texts.add(List.of());
        for (int k = 0; k < texts.size(); k++) {
            for (int line = 1; line <= 3 && texts.get(k).size() < most; line++) {
                List<Integer> longer = new ArrayList<>(texts.get(k));
                longer.add(line);
                texts.add(longer);
            }
        }
        return texts;
    }

    private static void everyBodyOfTwoRevisions(int length) {
        Set<List<Integer>> writable = new HashSet<>();
        for (List<Integer> first : texts(5)) {
            for (List<Integer> second : texts(5)) {
                List<Integer> bytes = Model.encode(List.of(
                    new Model.Revision(-1, 0, first), new Model.Revision(0, 0, second)));
                if (bytes.size() == 7 + length) {
                    writable.add(bytes.subList(7, bytes.size()));
                }
            }
        }
        for (int code = 0; code < 1 << 2 * length; code++) {
            List<Integer> body = new ArrayList<>();
            for (int k = 0; k < length; k++) {
                body.add(code >> 2 * k & 3);
            }
            DeltaHistory x = twoEqualRevisions(length - 2);
            for (int k = 0; k < length; k++) {
                x.corrupt(7 + k, body.get(k));
            }
            CHECKS.due("load() of two revisions with " + body, writable.contains(body) ? 2 : -1, x::load);
        }
    }

    /** Two revisions of the same text: their bodies are 2 bytes longer than this. */
    private static DeltaHistory twoEqualRevisions(int lines) {
        DeltaHistory x = new DeltaHistory();
        for (int k = 0; k < lines; k++) {
            x.insert(0, 1);
        }
        x.checkIn(0, -1);
        x.lock(0, 0);
        x.checkIn(0, 0);
        return x;
    }

    private static void everyHeadOfThreeRevisions() {
        for (int k = 0; k < 10; k++) {
            for (int b = 0; b < 256; b++) {
                int at = k;
                int value = b;
                DeltaHistory x = twoEqualRevisions(0);
                x.lock(0, 1);
                x.checkIn(0, 1);
                x.corrupt(at, value);
                boolean isRight = at == 0 ? value == 3
                    : at % 3 == 1 ? (at == 1 ? value == 0 : value >= 1 && value <= at / 3)
                    : at % 3 == 2 ? value <= 3 : value <= 4;
                CHECKS.due("load() with byte " + at + " = " + value, isRight ? 3 : -1, x::load);
            }
        }
    }

    /** A file that one object wrote, put over that of another with as many bytes, makes the same history. */
    private static void filesOfOtherHistories() {
        Random random = new Random(13);
        for (int n = 0; n < 20000; n++) {
            DeltaHistory x = history(random);
            DeltaHistory y = history(random);
            int size = y.size(false);
            if (x.size(false) != size) {
                continue;
            }
            for (int k = 0; k < size; k++) {
                x.corrupt(k, y.at(k, false));
            }
            CHECKS.due("load() of another's file", y.revisions(), x::load);
            CHECKS.due("the other's history", told(y), () -> told(x));
        }
    }

    private static DeltaHistory history(Random random) {
        DeltaHistory x = new DeltaHistory();
        x.checkIn(random.nextInt(4), -1);
        int count = 1 + random.nextInt(6);
        for (int k = 1; k < count; k++) {
            int user = random.nextInt(4);
            int from = random.nextInt(k);
            x.lock(user, from);
            for (int line = 0; line < random.nextInt(4); line++) {
                x.insert(random.nextInt(x.lines() + 1), 1 + random.nextInt(9));
            }
            x.remove(random.nextInt(4));
            x.checkIn(user, from);
        }
        x.lock(random.nextInt(4), random.nextInt(count));
        return x;
    }

    private static String told(DeltaHistory x) {
        StringBuilder told = new StringBuilder();
        for (int r = 0; r < x.revisions(); r++) {
            for (int what = 0; what < 6; what++) {
                told.append(x.about(r, what)).append(' ');
            }
            x.checkOut(r);
            int lines = x.lines();
            for (int k = 0; k < lines; k++) {
                told.append(' ').append(x.line(k));
            }
            told.append('\n');
        }
        return told.toString();
    }
}
