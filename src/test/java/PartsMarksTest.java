import java.math.BigInteger;
import java.util.Random;

/** Promises 29 to 35. */
public final class PartsMarksTest {
    private static final Due due = new Due();

    public static void main(String[] args) {
        parts();
        partsRefused();
        join();
        anyPartsJoin();
        spread();
        sumAndLineUp();
        falseShare();
        falseShareOfMany();
        cut();
        due.end();
    }

    /** The next number of a KEY, without an int that wraps. */
    private static int next(int l) {
        BigInteger all = BigInteger.valueOf(l).multiply(BigInteger.valueOf(1103515245)).add(BigInteger.valueOf(12345));
        return all.intValue();
    }

    private static int bits(int l) {
        return (int) ((l & 0xffffffffL) / 65536 % 32768);
    }

    private static void parts() {
        HiddenWords x = new HiddenWords();
        for (int key : new int[] {0, 77, -5, Integer.MIN_VALUE}) {
            for (int t = 1; t <= 5; t++) {
                due.is("parts", x.parts(250, t, 10, key, 2), 10);
                int l = key;
                long[] a = new long[5];
                a[0] = 250;
                for (int p = 1; p < t; p++) {
                    l = next(l);
                    a[p] = bits(l) % 251;
                }
                for (int i = 1; i <= 10; i++) {
                    long want = 0;
                    for (int p = 0; p < 5; p++) want += a[p] * (long) Math.pow(i, p);
                    due.is("part " + i + " by " + key + ", " + t, Due.told(x, x.at(2, i - 1)), want % 251);
                }
            }
        }
        due.is("a row anew", x.parts(0, 1, 1, 3, 2), 1);
        due.row("a row anew", x, 2, "[0]");
    }

    private static void partsRefused() {
        HiddenWords x = new HiddenWords();
        due.is("number -1", x.parts(-1, 1, 1, 0, 0), HiddenWords.BAD);
        due.is("number 251", x.parts(251, 1, 1, 0, 0), HiddenWords.BAD);
        due.is("t 0", x.parts(0, 0, 1, 0, 0), HiddenWords.BAD);
        due.is("t 6", x.parts(0, 6, 6, 0, 0), HiddenWords.BAD);
        due.is("n below t", x.parts(0, 4, 3, 0, 0), HiddenWords.BAD);
        due.is("n 11", x.parts(0, 4, 11, 0, 0), HiddenWords.BAD);
        due.is("row 6", x.parts(0, 1, 1, 0, 6), HiddenWords.BAD);
        due.is("row -1", x.parts(0, 1, 1, 0, -1), HiddenWords.BAD);
        due.is("no row is there", x.count(0), 0);
        due.is("n as t", x.parts(0, 5, 5, 0, 0), 5);
    }

    private static void join() {
        HiddenWords x = new HiddenWords();
        due.is("join(6)", x.join(6), HiddenWords.BAD);
        due.is("join(-1)", x.join(-1), HiddenWords.BAD);
        due.finds("none there", x, 0, x.join(0), 1);
        x.row(0, 0);
        due.finds("no pairs", x, 0, x.join(0), 5);
        Due.row(x, 0, 1, 2, 99);
        due.finds("not by twos, ahead of numbers", x, 1, x.join(0), 5);
        Due.row(x, 0, 1, 1, 2, 1, 3, 1, 4, 1, 5, 1, 6, 1);
        due.finds("six pairs", x, 2, x.join(0), 5);
        Due.row(x, 0, 1, 1, 2, 1, 3, 1, 4, 1, 5, 1);
        due.is("five pairs", x.join(0), 1);
        Due.row(x, 0, 10, 250);
        due.is("one pair", x.join(0), 250);
        for (int[] wrong : new int[][] {{0, 5}, {11, 5}, {-1, 5}, {1, -1}, {1, 251}, {4, 5, 4, 5}, {4, 5, 3, 5, 4, 6}, {3, 5, 4, 5, 4, 6}}) {
            Due.row(x, 0, wrong);
            due.finds("a number, an i twice", x, x.findings(3), x.join(0), 3);
        }
        due.is("eight of these", x.findings(3), 8);
    }

    private static void anyPartsJoin() {
        Random random = new Random(8);
        for (int run = 0; run < 120; run++) {
            HiddenWords x = new HiddenWords();
            int v = random.nextInt(251);
            int t = 1 + random.nextInt(5);
            int n = t + random.nextInt(11 - t);
            x.parts(v, t, n, random.nextInt(), 0);
            java.util.List<Integer> all = new java.util.ArrayList<>();
            for (int i = 1; i <= n; i++) all.add(i);
            java.util.Collections.shuffle(all, random);
            x.row(1, 2 * t);
            for (int j = 0; j < t; j++) {
                x.at(0, all.get(j) - 1);
                int part = x.asked();
                x.lay(1, 2 * j, all.get(j));
                x.lay(1, 2 * j + 1, part);
            }
            due.is("join, run " + run, x.join(1), v);
        }
    }

    private static int[] signs(int key, int n) {
        int[] all = new int[n];
        int l = key;
        for (int i = 0; i < n; i++) {
            l = next(l);
            all[i] = bits(l) % 2 == 1 ? 1 : -1;
        }
        return all;
    }

    private static void spread() {
        HiddenWords x = new HiddenWords();
        int[] dots = {0, 255, 20, 235, 19, 236, 100, 0, 255, 20, 235, 19, 236, 3};
        for (int key = 0; key < 6; key++) {
            for (int kind = 0; kind < 3; kind++) {
                Due.row(x, 0, dots);
                if (kind == 0) x.cover(0, 0, 0);
                else x.grey(0, 0, 4, kind == 2);
                x.wet(0, 5);
                int kept = 0;
                int[] sign = signs(key, dots.length);
                StringBuilder want = new StringBuilder("[");
                for (int i = 0; i < dots.length; i++) {
                    int v = dots[i] + 20 * sign[i];
                    if (v < 0 || v > 255) kept++;
                    want.append(i == 0 ? "" : " ").append(v < 0 ? 0 : v > 255 ? 255 : v);
                }
                due.is("spread", x.spread(0, key, 20), kept);
                x.dots(0, 1);
                due.row("spread", x, 1, want + "]");
                due.is("it stays of its KIND", x.kind(0), kind);
                due.is("it stays WET", Due.told(x, x.dot(0, 2, 4)), 1);
                if (key % 2 == 1) x = new HiddenWords();
            }
        }
        x = new HiddenWords();
        Due.row(x, 0, 0, 1, 0);
        Due.row(x, 1, 2, 2, 1);
        due.is("strength 0", x.spread(0, 0, 0), HiddenWords.BAD);
        due.is("strength 21", x.spread(0, 0, 21), HiddenWords.BAD);
        due.is("cover 6", x.spread(6, 0, 1), HiddenWords.BAD);
        due.is("cover -1", x.spread(-1, 0, 1), HiddenWords.BAD);
        due.finds("none there", x, 0, x.spread(0, 0, 1), 1);
        x.wordy(0, 0, 1);
        due.finds("WORDY", x, 0, x.spread(0, 0, 1), 3);
        Due.row(x, 0, 5, 1, 0);
        x.cover(0, 4, 0);
        due.finds("ORDERED", x, 1, x.spread(0, 0, 1), 3);
    }

    private static void sumAndLineUp() {
        Random random = new Random(3);
        for (int run = 0; run < 40; run++) {
            HiddenWords x = new HiddenWords();
            int n = run == 0 ? 40 : 1 + random.nextInt(12);
            int[] dots = new int[n];
            for (int i = 0; i < n; i++) dots[i] = random.nextInt(run < 20 ? 256 : 3);
            Due.row(x, 0, dots);
            x.cover(0, 0, 0);
            int key = random.nextInt();
            int[] sign = signs(key, n);
            int best = -1;
            int most = Integer.MIN_VALUE;
            for (int s = 0; s < 40; s++) {
                int want = 0;
                for (int i = 0; i < n; i++) want += dots[i] * sign[(i + s) % n];
                due.is("sum by " + s, Due.told(x, x.sum(0, key, s)), want);
                if (s < n && want > most) {
                    most = want;
                    best = s;
                }
            }
            due.is("lineUp", x.lineUp(0, key), best);
            due.is("lineUp tells the SUM", x.asked(), most);
            x.sum(0, key + 1, 0);
            due.is("lineUp by its own KEY", x.lineUp(0, key), best);
        }
        HiddenWords x = new HiddenWords();
        due.is("shift -1", x.sum(0, 0, -1), HiddenWords.BAD);
        due.is("shift 40", x.sum(0, 0, 40), HiddenWords.BAD);
        due.is("cover 6", x.sum(6, 0, 0), HiddenWords.BAD);
        due.is("cover -1", x.sum(-1, 0, 0), HiddenWords.BAD);
        due.is("cover 6", x.lineUp(6, 0), HiddenWords.BAD);
        due.is("cover -1", x.lineUp(-1, 0), HiddenWords.BAD);
        due.finds("none there", x, 0, x.sum(0, 0, 0), 1);
        due.finds("none there", x, 1, x.lineUp(0, 0), 1);
        Due.row(x, 0, 3, 2, 1);
        x.cover(0, 4, 0);
        due.is("an ORDERED one has a SUM", x.sum(0, 9, 1), 1);
        due.is("alike ones: the first", aLikeOnes(), 0);
    }

    private static int aLikeOnes() {
        HiddenWords x = new HiddenWords();
        x.row(0, 9);
        x.cover(0, 0, 0);
        return x.lineUp(0, 123);
    }

    private static void share(HiddenWords x, int c, int sum, long upper, long lower) {
        due.is("falseShare(" + c + ", " + sum + ")", x.falseShare(c, sum), 1);
        due.is("upper of " + sum, x.upper(), upper);
        due.is("lower of " + sum, x.lower(), lower);
    }

    private static void falseShare() {
        HiddenWords x = new HiddenWords();
        Due.row(x, 0, 0, 0, 0);
        x.cover(0, 0, 0);
        share(x, 0, 0, 1, 1);
        share(x, 0, 1, 0, 1);
        Due.row(x, 0, 5);
        x.cover(0, 0, 0);
        share(x, 0, 5, 1, 2);
        share(x, 0, 6, 0, 1);
        share(x, 0, -4, 1, 2);
        share(x, 0, -5, 1, 1);
        int[] all = new int[40];
        java.util.Arrays.fill(all, 255);
        Due.row(x, 0, all);
        x.cover(1, 0, 0);
        share(x, 1, 10200, 1, 1L << 40);
        share(x, 1, 10199, 1, 1L << 40);
        share(x, 1, 9690, 41, 1L << 40);
        share(x, 1, 9691, 1, 1L << 40);
        share(x, 1, -10200, 1, 1);
        share(x, 1, -10199, (1L << 40) - 1, 1L << 40);
        // the middle count of 40, 137846528820, counts to both ends
        share(x, 1, 0, ((1L << 40) + 137846528820L) / 2 / 2, (1L << 40) / 2);
        due.is("sum 10201", x.falseShare(1, 10201), HiddenWords.BAD);
        due.is("sum -10201", x.falseShare(1, -10201), HiddenWords.BAD);
        due.is("cover 6", x.falseShare(6, 0), HiddenWords.BAD);
        due.is("cover -1", x.falseShare(-1, 0), HiddenWords.BAD);
        due.finds("none there", x, 0, x.falseShare(2, 0), 1);
    }

    private static void falseShareOfMany() {
        Random random = new Random(21);
        for (int run = 0; run < 60; run++) {
            HiddenWords x = new HiddenWords();
            int n = 1 + random.nextInt(11);
            int reach = 1 + random.nextInt(256);
            int[] dots = new int[n];
            for (int i = 0; i < n; i++) dots[i] = random.nextInt(reach);
            Due.row(x, 0, dots);
            x.cover(0, 0, 0);
            for (int turn = 0; turn < 8; turn++) {
                int sum = random.nextInt(2 * n * reach + 1) - n * reach;
                long count = 0;
                for (int signs = 0; signs < 1 << n; signs++) {
                    int all = 0;
                    for (int i = 0; i < n; i++) all += (signs >> i & 1) == 1 ? dots[i] : -dots[i];
                    if (all >= sum) count++;
                }
                long common = BigInteger.valueOf(count).gcd(BigInteger.valueOf(1L << n)).longValue();
                share(x, 0, sum, count / common, (1L << n) / common);
            }
        }
    }

    private static void cut() {
        HiddenWords x = new HiddenWords();
        Due.row(x, 0, 9, 8, 7, 6);
        x.grey(0, 0, 2, true);
        x.wet(0, 15);
        due.is("cut", x.cut(0, 1, 2, 3), 2);
        due.is("of KIND 0", x.kind(3), 0);
        x.dots(3, 1);
        due.row("cut", x, 1, "[8 7]");
        due.is("not WET", x.wet(3, 0), 0);
        due.is("PRICE", Due.told(x, x.dot(3, 0, 3)), 10);
        due.is("its source stays", x.kind(0), 2);
        due.is("cut of one", x.cut(0, 3, 1, 4), 1);
        due.is("cut of one", Due.told(x, x.dot(4, 0, 0)), 6);
        due.is("cut in itself", x.cut(0, 2, 2, 0), 2);
        x.dots(0, 1);
        due.row("cut in itself", x, 1, "[7 6]");
        due.is("of KIND 0", x.kind(0), 0);
        due.is("not WET", Due.told(x, x.dot(0, 0, 4)), 0);
        Due.row(x, 0, 1, 0);
        Due.row(x, 1, 4, 1);
        x.wordy(1, 0, 1);
        due.is("cut of all", x.cut(1, 0, 2, 1), 2);
        due.is("of KIND 0", x.kind(1), 0);
        due.is("no choices", Due.told(x, x.dot(1, 1, 3)), 10);
        due.is("no choices", Due.told(x, x.dot(1, 1, 4)), 0);
        due.is("m 0", x.cut(0, 0, 0, 0), HiddenWords.BAD);
        due.is("m -1, missing", x.cut(5, 0, -1, 0), HiddenWords.BAD);
        due.is("cover 6", x.cut(6, 0, 1, 0), HiddenWords.BAD);
        due.is("cover -1", x.cut(-1, 0, 1, 0), HiddenWords.BAD);
        due.is("to 6", x.cut(0, 0, 1, 6), HiddenWords.BAD);
        due.is("to -1", x.cut(0, 0, 1, -1), HiddenWords.BAD);
        due.finds("none there", x, x.findings(1), x.cut(5, 0, 1, 0), 1);
        int beyond = x.findings(2);
        due.finds("beyond", x, beyond, x.cut(0, 1, 2, 0), 2);
        due.finds("m above n", x, beyond + 1, x.cut(0, 0, 3, 0), 2);
        due.finds("ahead", x, beyond + 2, x.cut(0, -1, 1, 0), 2);
        due.finds("sums that wrap", x, beyond + 3, x.cut(0, Integer.MAX_VALUE, 1, 0), 2);
        due.finds("sums that wrap", x, beyond + 4, x.cut(0, 1, Integer.MAX_VALUE, 0), 2);
        due.finds("sums that wrap", x, beyond + 5, x.cut(0, Integer.MIN_VALUE, Integer.MAX_VALUE, 0), 2);
    }
}
