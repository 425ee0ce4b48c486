import java.math.BigInteger;
import java.util.ArrayList;
import java.util.List;
import java.util.Random;

/** Promises 36 to 44. */
public final class GangsModelsOrdersTest {
    private static final Due due = new Due();

    public static void main(String[] args) {
        makes();
        guilty();
        gangsOfMany();
        apart();
        howFar();
        bestTest();
        modelsOfMany();
        learn();
        pairs();
        pairsOfMany();
        rank();
        arrange();
        due.end();
    }

    private static void makes() {
        HiddenWords x = new HiddenWords();
        Due.row(x, 0, 0b000011, 0b000101, 4095);
        due.is("one of itself", x.makes(0, 1, 0b000011), 1);
        due.is("not another", x.makes(0, 1, 0b000101), 0);
        due.is("two", x.makes(0, 3, 0b000111), 1);
        due.is("two", x.makes(0, 3, 0b000001), 1);
        due.is("bit 0 is 1 in both", x.makes(0, 3, 0b000110), 0);
        due.is("bit 3 is 0 in both", x.makes(0, 3, 0b001001), 0);
        due.is("the greatest copy", x.makes(0, 4, 4095), 1);
        due.is("all three", x.makes(0, 7, 0b101010101011), 1);
        due.is("row 6", x.makes(6, 1, 0), HiddenWords.BAD);
        due.is("row -1", x.makes(-1, 1, 0), HiddenWords.BAD);
        due.is("gang 0", x.makes(0, 0, 0), HiddenWords.BAD);
        due.is("gang 0, missing", x.makes(1, 0, 0), HiddenWords.BAD);
        due.is("gang below 0", x.makes(1, -1, 0), HiddenWords.BAD);
        due.is("copy -1", x.makes(0, 1, -1), HiddenWords.BAD);
        due.is("copy 4096", x.makes(1, 1, 4096), HiddenWords.BAD);
        due.is("a name that there is not", x.makes(0, 8, 0), HiddenWords.BAD);
        due.is("a name that there is not", x.makes(0, 9, 3), HiddenWords.BAD);
        due.is("no finding", x.finding(), 0);
        due.finds("none there", x, 0, x.makes(1, 1024, 0), 1);
        x.row(1, 0);
        due.finds("no names", x, 0, x.makes(1, 1, 0), 5);
        x.row(1, 11);
        x.lay(1, 0, 5000);
        due.finds("eleven names, ahead of numbers", x, 1, x.makes(1, 1, 0), 5);
        Due.row(x, 1, 1, 4096);
        due.finds("a number, ahead of names", x, 0, x.makes(1, 4, 0), 3);
        Due.row(x, 1, -1, 1);
        due.finds("a number", x, 1, x.makes(1, 1, 0), 3);
        x.row(1, 10);
        due.is("ten names", x.makes(1, 1023, 0), 1);
        due.is("bit 10", x.makes(1, 1024, 0), HiddenWords.BAD);
    }

    private static void guilty() {
        HiddenWords x = new HiddenWords();
        Due.row(x, 0, 1, 2, 4);
        due.is("alone", x.guilty(0, 1, 2), 1);
        due.is("alone", x.asked(), 2);
        due.is("two: 1 and 2, and more", x.guilty(0, 2, 3), 1);
        due.is("two", x.asked(), 3);
        due.is("three at most", x.guilty(0, 3, 3), 2);
        due.is("three at most", x.asked(), 3);
        due.is("no gang", x.guilty(0, 4, 8), 0);
        due.is("no gang", x.asked(), 0);
        due.is("nobody is in all", x.guilty(0, 4, 0), 4);
        due.is("nobody is in all", x.asked(), 0);
        due.is("row 6", x.guilty(6, 1, 0), HiddenWords.BAD);
        due.is("row -1", x.guilty(-1, 1, 0), HiddenWords.BAD);
        due.is("g 0", x.guilty(0, 0, 0), HiddenWords.BAD);
        due.is("g 5", x.guilty(1, 5, 0), HiddenWords.BAD);
        due.is("copy -1", x.guilty(0, 1, -1), HiddenWords.BAD);
        due.is("copy 4096", x.guilty(0, 1, 4096), HiddenWords.BAD);
        due.finds("none there", x, 0, x.guilty(1, 1, 0), 1);
        x.row(1, 0);
        due.finds("no names", x, 0, x.guilty(1, 1, 0), 5);
        x.row(1, 11);
        x.lay(1, 0, -1);
        due.finds("eleven names", x, 1, x.guilty(1, 1, 0), 5);
        Due.row(x, 1, 4096);
        due.finds("a number", x, 0, x.guilty(1, 1, 0), 3);
    }

    private static boolean canMake(int[] names, int gang, int copy) {
        for (int place = 0; place < 12; place++) {
            boolean one = false;
            for (int i = 0; i < names.length; i++) {
                if ((gang >> i & 1) == 1 && (names[i] >> place & 1) == (copy >> place & 1)) one = true;
            }
            if (!one) return false;
        }
        return true;
    }

    private static void gangsOfMany() {
        Random random = new Random(17);
        for (int run = 0; run < 60; run++) {
            HiddenWords x = new HiddenWords();
            int n = 1 + random.nextInt(10);
            int[] names = new int[n];
            for (int i = 0; i < n; i++) names[i] = random.nextInt(4096);
            Due.row(x, 0, names);
            int copy = names[random.nextInt(n)] & names[random.nextInt(n)];
            int g = 1 + random.nextInt(4);
            int gangs = 0;
            int all = -1;
            for (int gang = 1; gang < 1 << n; gang++) {
                boolean can = canMake(names, gang, copy);
                if (gang % 13 == 1) due.is("makes, run " + run, x.makes(0, gang, copy), can ? 1 : 0);
                if (!can || Integer.bitCount(gang) > g) continue;
                gangs++;
                all &= gang;
            }
            due.is("guilty, run " + run, x.guilty(0, g, copy), gangs);
            due.is("guilty ones, run " + run, x.asked(), gangs == 0 ? 0 : all);
        }
    }

    private static void apart() {
        HiddenWords x = new HiddenWords();
        Due.row(x, 0, 0, 4095);
        due.is("all places", x.apart(0), 12);
        Due.row(x, 0, 0, 4095, 7, 1023, 7 + 64);
        due.is("the least", x.apart(0), 1);
        Due.row(x, 0, 5, 6, 5);
        due.is("alike", x.apart(0), 0);
        Due.row(x, 0, 0, 1, 4095);
        due.is("neighbours", x.apart(0), 1);
        Due.row(x, 0, 0, 15, 4095, 2047);
        due.is("neighbours", x.apart(0), 1);
        Due.row(x, 0, 5);
        due.is("one name", x.apart(0), HiddenWords.NONE);
        due.is("row 6", x.apart(6), HiddenWords.BAD);
        due.is("row -1", x.apart(-1), HiddenWords.BAD);
        due.finds("none there", x, 0, x.apart(1), 1);
        x.row(1, 0);
        due.finds("no names", x, 0, x.apart(1), 5);
        x.row(1, 11);
        due.finds("eleven names", x, 1, x.apart(1), 5);
        Due.row(x, 1, 4096);
        due.finds("a number, ahead of NONE", x, 0, x.apart(1), 3);
        Due.row(x, 1, 3, -4);
        due.finds("a number", x, 1, x.apart(1), 3);
    }

    private static void fraction(String what, HiddenWords x, int got, long upper, long lower) {
        due.is(what, got, 1);
        due.is(what + ", upper()", x.upper(), upper);
        due.is(what + ", lower()", x.lower(), lower);
    }

    private static void howFar() {
        HiddenWords x = new HiddenWords();
        Due.row(x, 0, 0, 8, 255);
        x.cover(0, 0, 0);
        Due.row(x, 1, 2, 0, 0, 0, 0, 0, 0, 1);
        fraction("alike", x, x.howFar(0, 1), 0, 1);
        Due.row(x, 1, 0, 5, 0, 0, 0, 0, 0, 0);
        fraction("nothing alike", x, x.howFar(0, 1), 1, 1);
        Due.row(x, 1, 999, 999, 999, 999, 999, 999, 999, 999);
        fraction("even", x, x.howFar(0, 1), 3, 4);
        due.is("cover 6", x.howFar(6, 1), HiddenWords.BAD);
        due.is("cover -1", x.howFar(-1, 1), HiddenWords.BAD);
        due.is("row 6", x.howFar(0, 6), HiddenWords.BAD);
        due.is("row -1", x.howFar(0, -1), HiddenWords.BAD);
        due.finds("no cover", x, 0, x.howFar(1, 1), 1);
        due.finds("no row", x, 1, x.howFar(0, 2), 1);
        Due.row(x, 1, 0, 0, 0, 0, 0, 0, -1);
        due.finds("seven, ahead of numbers", x, 0, x.howFar(0, 1), 5);
        x.row(1, 9);
        due.finds("nine", x, 1, x.howFar(0, 1), 5);
        Due.row(x, 1, 0, 0, 0, 0, 0, 0, 0, -1);
        due.finds("a count", x, 0, x.howFar(0, 1), 3);
        Due.row(x, 1, 0, 0, 0, 0, 0, 0, 0, 1000);
        due.finds("a count", x, 1, x.howFar(0, 1), 3);
        x.row(1, 8);
        due.finds("all are 0", x, 0, x.howFar(0, 1), 4);
        due.is("the fraction stays", x.upper() * 10 + x.lower(), 34);
    }

    private static void bestTest() {
        HiddenWords x = new HiddenWords();
        Due.row(x, 0, 3, 1, 0, 0, 0, 0, 0, 0);
        Due.row(x, 1, 1, 3, 0, 0, 0, 0, 0, 4);
        fraction("best test", x, x.bestTest(0, 1), 3, 8);
        due.is("speaks for the first", x.asked(), 1);
        fraction("best test", x, x.bestTest(1, 0), 3, 8);
        due.is("speaks for the first", x.asked(), 2 + 128);
        fraction("of one", x, x.bestTest(1, 1), 1, 1);
        due.is("speaks for none", x.asked(), 0);
        Due.row(x, 2, 0, 0, 0, 0, 0, 0, 999, 0);
        fraction("never errs", x, x.bestTest(0, 2), 0, 1);
        due.is("speaks for the first", x.asked(), 3);
        due.is("row 6", x.bestTest(6, 0), HiddenWords.BAD);
        due.is("row -1", x.bestTest(-1, 0), HiddenWords.BAD);
        due.is("other 6", x.bestTest(0, 6), HiddenWords.BAD);
        due.is("other -1", x.bestTest(0, -1), HiddenWords.BAD);
        due.finds("no row", x, 0, x.bestTest(3, 0), 1);
        due.finds("no other", x, 1, x.bestTest(0, 3), 1);
        x.row(3, 7);
        Due.row(x, 4, 1000, 0, 0, 0, 0, 0, 0, 0);
        x.row(5, 8);
        x.bestTest(0, 2);
        due.finds("SIZE of one", x, 0, x.bestTest(3, 0), 5);
        due.finds("SIZE of the other ahead of UNLIKE", x, 1, x.bestTest(4, 3), 5);
        due.finds("UNLIKE of one", x, 0, x.bestTest(4, 0), 3);
        x.lay(4, 0, -1);
        due.finds("UNLIKE of one, below 0", x, 1, x.bestTest(4, 0), 3);
        x.bestTest(0, 2);
        due.finds("UNLIKE of the other ahead of NOUGHT", x, 2, x.bestTest(5, 4), 3);
        due.finds("NOUGHT of one", x, 0, x.bestTest(5, 0), 4);
        due.finds("NOUGHT of the other", x, 1, x.bestTest(0, 5), 4);
        due.is("asked() stays", x.asked(), 3);
    }

    /** HOW FAR as a plain sum of fractions. */
    private static Ratio howFar(int[] one, int[] other) {
        long a = 0;
        long b = 0;
        for (int i = 0; i < 8; i++) {
            a += one[i];
            b += other[i];
        }
        Ratio sum = new Ratio(0, 1);
        for (int i = 0; i < 8; i++) {
            Ratio gap = new Ratio(one[i], a).less(new Ratio(other[i], b));
            sum = sum.plus(gap.upper.signum() < 0 ? new Ratio(0, 1).less(gap) : gap);
        }
        return new Ratio(sum.upper, sum.lower.multiply(BigInteger.TWO));
    }

    private static void modelsOfMany() {
        Random random = new Random(4);
        for (int run = 0; run < 80; run++) {
            HiddenWords x = new HiddenWords();
            int n = 1 + random.nextInt(40);
            int[] dots = new int[n];
            int[] counts = new int[8];
            for (int i = 0; i < n; i++) {
                dots[i] = random.nextInt(256);
                counts[dots[i] % 8]++;
            }
            int[] model = new int[8];
            for (int i = 0; i < 8; i++) model[i] = random.nextInt(run < 40 ? 1000 : 3);
            model[run % 8]++;
            if (model[run % 8] > 999) model[run % 8] = 999;
            Due.row(x, 0, dots);
            Due.row(x, 1, model);
            x.cover(0, 0, 0);
            Ratio far = howFar(counts, model);
            fraction("howFar, run " + run, x, x.howFar(0, 1), far.upper.longValueExact(), far.lower.longValueExact());
            x.learn(0, 2);
            Ratio best = new Ratio(1, 1).less(far);
            fraction("bestTest, run " + run, x, x.bestTest(2, 1), best.upper.longValueExact(), best.lower.longValueExact());
            int speaks = 0;
            long total = 0;
            for (int m : model) total += m;
            for (int i = 0; i < 8; i++) {
                if (new Ratio(counts[i], n).less(new Ratio(model[i], total)).upper.signum() > 0) speaks |= 1 << i;
            }
            due.is("speaks, run " + run, x.asked(), speaks);
        }
    }

    private static void learn() {
        HiddenWords x = new HiddenWords();
        Due.row(x, 0, 0, 8, 255, 3, 11, 19);
        x.grey(0, 0, 2, true);
        x.row(1, 20);
        due.is("learn", x.learn(0, 1), 3);
        due.row("learn", x, 1, "[2 0 0 3 0 0 0 1]");
        due.is("cover 6", x.learn(6, 1), HiddenWords.BAD);
        due.is("cover -1", x.learn(-1, 1), HiddenWords.BAD);
        due.is("row 6", x.learn(0, 6), HiddenWords.BAD);
        due.is("row -1", x.learn(0, -1), HiddenWords.BAD);
        due.finds("none there", x, x.findings(1), x.learn(1, 1), 1);
        due.row("refused ones change nothing", x, 1, "[2 0 0 3 0 0 0 1]");
    }

    private static void pairs() {
        HiddenWords x = new HiddenWords();
        Due.row(x, 0, 254, 255, 255, 0, 0);
        x.cover(0, 0, 0);
        due.is("pairs", x.pairs(0), 2);
        due.is("upper", x.upper(), 7);
        due.is("lower", x.lower(), 3);
        Due.row(x, 0, 7, 6);
        x.cover(0, 4, 0);
        due.is("even ones", x.pairs(0), 1);
        due.is("upper", x.upper(), 0);
        due.is("lower", x.lower(), 1);
        Due.row(x, 0, 1, 2);
        x.cover(0, 0, 0);
        due.is("1 and 2 are no pair", x.pairs(0), 2);
        due.is("upper", x.upper(), 2);
        due.is("cover 6", x.pairs(6), HiddenWords.BAD);
        due.is("cover -1", x.pairs(-1), HiddenWords.BAD);
        due.finds("none there", x, 0, x.pairs(1), 1);
        due.is("the fraction stays", x.upper(), 2);
    }

    private static void pairsOfMany() {
        Random random = new Random(12);
        for (int run = 0; run < 60; run++) {
            HiddenWords x = new HiddenWords();
            int n = 1 + random.nextInt(40);
            int reach = 2 + random.nextInt(30);
            int[] counts = new int[256];
            int[] dots = new int[n];
            for (int i = 0; i < n; i++) {
                dots[i] = 255 - random.nextInt(1 + random.nextInt(reach));
                counts[dots[i]]++;
            }
            Due.row(x, 0, dots);
            x.cover(0, 0, 0);
            Ratio sum = new Ratio(0, 1);
            int there = 0;
            for (int i = 0; i < 128; i++) {
                int a = counts[2 * i];
                int b = counts[2 * i + 1];
                if (a + b == 0) continue;
                there++;
                sum = sum.plus(new Ratio((a - b) * (a - b), a + b));
            }
            due.is("pairs, run " + run, x.pairs(0), there);
            due.is("upper, run " + run, x.upper(), sum.upper.longValueExact());
            due.is("lower, run " + run, x.lower(), sum.lower.longValueExact());
        }
    }

    /** All orders of some numbers, by rising numbers. */
    private static void orders(List<Integer> left, List<Integer> taken, List<List<Integer>> all) {
        if (left.isEmpty()) all.add(new ArrayList<>(taken));
        for (int i = 0; i < left.size(); i++) {
            List<Integer> rest = new ArrayList<>(left);
            taken.add(rest.remove(i));
            orders(rest, taken, all);
            taken.remove(taken.size() - 1);
        }
    }

    private static void rank() {
        List<List<Integer>> all = new ArrayList<>();
        orders(List.of(2, 3, 50, 200, 255), new ArrayList<>(), all);
        HiddenWords x = new HiddenWords();
        for (int want = 0; want < all.size(); want++) {
            int[] dots = all.get(want).stream().mapToInt(i -> i).toArray();
            Due.row(x, 0, dots);
            x.cover(0, 4, 0);
            due.is("rank of " + all.get(want), x.rank(0), want);
            if (want % 50 == 49) x = new HiddenWords();
        }
        Random random = new Random(2);
        for (int run = 0; run < 30; run++) {
            List<Integer> dots = new ArrayList<>();
            for (int i = 0; i < 40; i++) dots.add(i * 6);
            java.util.Collections.shuffle(dots, random);
            Due.row(x, 0, dots.stream().mapToInt(i -> i).toArray());
            x.cover(0, 4, 0);
            BigInteger rank = BigInteger.ZERO;
            BigInteger factorial = BigInteger.ONE;
            for (int i = 39; i >= 0; i--) {
                int less = 0;
                for (int j = i + 1; j < 40; j++) less += dots.get(j) < dots.get(i) ? 1 : 0;
                rank = rank.add(factorial.multiply(BigInteger.valueOf(less)));
                factorial = factorial.multiply(BigInteger.valueOf(40 - i));
            }
            due.is("rank of 40", x.rank(0), rank.mod(BigInteger.valueOf(1000003)).longValue());
        }
        due.is("cover 6", x.rank(6), HiddenWords.BAD);
        due.is("cover -1", x.rank(-1), HiddenWords.BAD);
        due.finds("none there", x, 0, x.rank(1), 1);
        x.cover(1, 0, 0);
        due.finds("not ORDERED", x, 0, x.rank(1), 3);
    }

    private static void arrange() {
        List<List<Integer>> all = new ArrayList<>();
        orders(List.of(0, 9, 77, 100, 255), new ArrayList<>(), all);
        HiddenWords x = new HiddenWords();
        Due.row(x, 0, 77, 255, 0, 100, 9);
        x.cover(0, 4, 0);
        for (int rank = 119; rank >= 0; rank--) {
            due.is("arrange " + rank, x.arrange(0, rank), 1);
            for (int i = 0; i < 5; i++) due.is("arranged by " + rank, Due.told(x, x.dot(0, i, 0)), all.get(rank).get(i));
        }
        due.finds("no such RANK", x, 0, x.arrange(0, 120), 2);
        due.finds("no such RANK", x, 1, x.arrange(0, Integer.MAX_VALUE), 2);
        due.is("refused ones change nothing", x.rank(0), 0);
        Due.row(x, 0, 10, 9, 8, 7, 6, 5, 4, 3, 2, 1);
        x.cover(0, 4, 0);
        due.is("ten", x.arrange(0, 3628799), 1);
        due.is("ten", x.rank(0), 3628799 % 1000003);
        due.is("ten", x.arrange(0, 1000000), 1);
        due.is("ten", x.rank(0), 1000000);
        due.finds("no such RANK", x, 2, x.arrange(0, 3628800), 2);
        Due.row(x, 0, 4);
        x.cover(1, 4, 0);
        due.is("one", x.arrange(1, 0), 1);
        due.finds("one has no other", x, 3, x.arrange(1, 1), 2);
        x.cover(1, 0, 0);
        due.finds("not ORDERED", x, 0, x.arrange(1, 0), 3);
        x.row(0, 11);
        x.cover(1, 0, 0);
        due.finds("UNLIKE ahead of SPENT", x, 1, x.arrange(1, 0), 3);
        Due.row(x, 0, 10, 9, 8, 7, 6, 5, 4, 3, 2, 1, 0);
        x.cover(1, 4, 0);
        due.is("eleven", x.arrange(1, Integer.MAX_VALUE), HiddenWords.SPENT);
        due.is("eleven", x.arrange(1, -1), HiddenWords.BAD);
        due.is("below 0, missing", x.arrange(2, -1), HiddenWords.BAD);
        due.is("cover 6", x.arrange(6, 0), HiddenWords.BAD);
        due.is("cover -1", x.arrange(-1, 0), HiddenWords.BAD);
        due.finds("none there", x, 0, x.arrange(2, 0), 1);
    }
}
