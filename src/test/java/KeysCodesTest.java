import java.util.Random;

/** Promises 19 to 23, 27 and 28. */
public final class KeysCodesTest {
    private static final Due due = new Due();

    public static void main(String[] args) {
        place();
        fault();
        code();
        line();
        room();
        changesAndReach();
        changesOfMany();
        due.end();
    }

    private static int[] orderOf(int key, int n) {
        int[] places = new int[n];
        for (int i = 0; i < n; i++) places[i] = i;
        long l = key;
        for (int i = n - 1; i >= 1; i--) {
            l = (l * 1103515245L + 12345L) & 0xffffffffL;
            int j = (int) ((l / 65536) % 32768 % (i + 1));
            int kept = places[i];
            places[i] = places[j];
            places[j] = kept;
        }
        return places;
    }

    private static void place() {
        HiddenWords x = new HiddenWords();
        for (int n : new int[] {1, 2, 7, 40}) {
            x.row(0, n);
            x.cover(0, 0, 0);
            for (int key : new int[] {0, 1, -1, 42, Integer.MIN_VALUE, Integer.MAX_VALUE}) {
                int[] want = orderOf(key, n);
                for (int i = 0; i < n; i++) due.is("place(0, " + key + ", " + i + ") of " + n, x.place(0, key, i), want[i]);
            }
        }
        x.row(0, 3);
        x.cover(0, 0, 0);
        due.is("place(6, ..)", x.place(6, 0, 0), HiddenWords.BAD);
        due.is("place(-1, ..)", x.place(-1, 0, 0), HiddenWords.BAD);
        due.finds("none there", x, 0, x.place(1, 0, 0), 1);
        due.finds("beyond", x, 0, x.place(0, 0, 3), 2);
        due.finds("ahead", x, 1, x.place(0, 0, -1), 2);
    }

    private static void faultOf(String text, int want) {
        HiddenWords x = new HiddenWords();
        Due.text(x, 2, text);
        due.is("fault of '" + text + "'", x.fault(2), want);
        int got = x.code(1, 2);
        if (want == HiddenWords.NONE) {
            due.is("code of '" + text + "'", got, text.trim().split("/").length);
        } else {
            due.is("code of '" + text + "'", got, HiddenWords.STATE);
            due.is("no code of '" + text + "'", x.count(4), 0);
        }
        due.is("no finding of '" + text + "'", x.finding(), 0);
    }

    private static void fault() {
        int none = HiddenWords.NONE;
        faultOf("0", none);
        faultOf("  01/10   ", none);
        faultOf("1/0/1/0/1/0", none);
        faultOf(" 1/0/1/0/1/0 ", none);
        faultOf("111111111111", none);
        faultOf("000000000000/111111111111/010101010101/101010101010", none);
        faultOf("", 0);
        faultOf("    ", 4);
        faultOf("/", 0);
        faultOf("  /1", 2);
        faultOf("2", 0);
        faultOf("  x", 2);
        faultOf("1/", 2);
        faultOf("1/ ", 2);
        faultOf("1/ 1", 2);
        faultOf("1 /1", 2);
        faultOf("1//1", 2);
        faultOf("10/1", 4);
        faultOf("10/1 ", 4);
        faultOf("10/1/", 4);
        faultOf("10/1x", 4);
        faultOf("10/101", 5);
        faultOf("10/10/1", 7);
        faultOf("1 0", 2);
        faultOf("1  x", 3);
        faultOf("1x", 1);
        faultOf("1111111111111", 12);
        faultOf(" 1111111111111", 13);
        faultOf("1/0/1/0/1/0/", 11);
        faultOf("1/0/1/0/1/0/1", 11);
        faultOf("1/0/1/0/1/01", 11);
        faultOf("\t1", 0);
        HiddenWords x = new HiddenWords();
        due.is("fault(4)", x.fault(4), HiddenWords.BAD);
        due.is("fault(-1)", x.fault(-1), HiddenWords.BAD);
        due.finds("none there", x, 0, x.fault(3), 1);
        Due.text(x, 0, "10");
        x.put(0, 1, 0);
        due.is("a byte 0 is no end", x.fault(0), 1);
        x.put(0, 1, 256 + 49);
        due.is("49, cut", x.fault(0), none);
        x.put(0, 1, -80);
        due.is("no sign", x.fault(0), 1);
    }

    private static void code() {
        HiddenWords x = new HiddenWords();
        due.is("code(4, 0)", x.code(4, 0), HiddenWords.BAD);
        due.is("code(-1, 0)", x.code(-1, 0), HiddenWords.BAD);
        due.is("code(0, 4)", x.code(0, 4), HiddenWords.BAD);
        due.is("code(0, -1)", x.code(0, -1), HiddenWords.BAD);
        due.finds("none there", x, 0, x.code(0, 0), 1);
        Due.text(x, 0, "101/011");
        due.is("code", x.code(3, 0), 2);
        Due.text(x, 0, "1/1/1/");
        due.is("a fault", x.code(3, 0), HiddenWords.STATE);
        due.is("refused ones change nothing", x.line(3, 0), 5);
        due.is("refused ones change nothing", x.line(3, 1), 6);
        Due.text(x, 0, " 1 ");
        due.is("code anew", x.code(3, 0), 1);
        due.is("code anew", x.line(3, 0), 1);
        due.finds("code anew", x, 0, x.line(3, 1), 2);
        x.text(0, 5);
        due.is("its own lines", x.line(3, 0), 1);
        due.is("count(4)", x.count(4), 1);
    }

    private static void line() {
        HiddenWords x = new HiddenWords();
        Due.text(x, 0, "100000000000/000000000001/110000000001");
        x.code(0, 0);
        due.is("the first sign is the lowest", x.line(0, 0), 1);
        due.is("the last sign", x.line(0, 1), 2048);
        due.is("three signs", x.line(0, 2), 2051);
        due.is("line(4, 0)", x.line(4, 0), HiddenWords.BAD);
        due.is("line(-1, 0)", x.line(-1, 0), HiddenWords.BAD);
        due.finds("none there", x, 0, x.line(1, 0), 1);
        due.finds("beyond", x, 0, x.line(0, 3), 2);
        due.finds("far beyond", x, 1, x.line(0, 6), 2);
        due.finds("ahead", x, 2, x.line(0, -1), 2);
    }

    private static void room() {
        HiddenWords x = new HiddenWords();
        Due.text(x, 0, "101/011");
        x.code(0, 0);
        x.row(0, 11);
        x.cover(0, 0, 0);
        due.is("whole blocks alone", x.room(0, 0), 6);
        x.row(0, 2);
        x.cover(1, 0, 0);
        due.is("no whole block", x.room(1, 0), 0);
        x.row(0, 40);
        x.cover(2, 0, 0);
        Due.text(x, 0, "1/0/1/0/1/1");
        x.code(1, 0);
        due.is("the most", x.room(2, 1), 240);
        due.is("room(6, 0)", x.room(6, 0), HiddenWords.BAD);
        due.is("room(-1, 0)", x.room(-1, 0), HiddenWords.BAD);
        due.is("room(0, 4)", x.room(0, 4), HiddenWords.BAD);
        due.is("room(0, -1)", x.room(0, -1), HiddenWords.BAD);
        due.finds("no cover", x, 0, x.room(3, 0), 1);
        due.finds("no code", x, 1, x.room(0, 3), 1);
    }

    private static void weighed(String text, int far, long upper, long lower, int reach) {
        HiddenWords x = new HiddenWords();
        Due.text(x, 0, text);
        x.code(0, 0);
        due.is("reach of " + text, x.reach(0), reach);
        due.is("reach tells no fraction", x.upper(), 0);
        due.is("changes of " + text, x.changes(0), far);
        due.is("upper of " + text, x.upper(), upper);
        due.is("lower of " + text, x.lower(), lower);
    }

    private static void changesAndReach() {
        weighed("0", 0, 0, 1, 1);
        weighed("000/000", 0, 0, 1, 1);
        weighed("1", 1, 1, 2, 2);
        weighed("1010101/0110011/0001111", 1, 7, 8, 8);
        weighed("10/01", 2, 1, 1, 4);
        weighed("11/11", 1, 1, 2, 2);
        weighed("100000/010000/001000/000100/000010/000001", 6, 3, 1, 64);
        weighed("101/011", 1, 3, 4, 4);
        HiddenWords x = new HiddenWords();
        due.is("changes(4)", x.changes(4), HiddenWords.BAD);
        due.is("changes(-1)", x.changes(-1), HiddenWords.BAD);
        due.is("reach(4)", x.reach(4), HiddenWords.BAD);
        due.is("reach(-1)", x.reach(-1), HiddenWords.BAD);
        due.finds("none there", x, 0, x.changes(0), 1);
        due.finds("none there", x, 1, x.reach(0), 1);
    }

    /** Against all sets of changes, tried one by one. */
    private static void changesOfMany() {
        Random random = new Random(5);
        for (int run = 0; run < 60; run++) {
            int k = 1 + random.nextInt(6);
            int w = 1 + random.nextInt(k == 6 ? 9 : k == 5 ? 11 : 12);
            StringBuilder text = new StringBuilder();
            int[] lines = new int[k];
            for (int i = 0; i < k; i++) {
                if (i > 0) text.append('/');
                for (int j = 0; j < w; j++) {
                    int sign = random.nextInt(2);
                    lines[i] |= sign << j;
                    text.append(sign);
                }
            }
            int[] least = new int[1 << k];
            java.util.Arrays.fill(least, 99);
            for (int set = 0; set < 1 << w; set++) {
                int bits = 0;
                for (int i = 0; i < k; i++) bits |= (Integer.bitCount(lines[i] & set) % 2) << i;
                least[bits] = Math.min(least[bits], Integer.bitCount(set));
            }
            int far = 0;
            long sum = 0;
            long many = 0;
            for (int n : least) {
                if (n == 99) continue;
                far = Math.max(far, n);
                sum += n;
                many++;
            }
            long common = java.math.BigInteger.valueOf(sum).gcd(java.math.BigInteger.valueOf(many)).longValue();
            weighed(text.toString(), far, sum / common, many / common, (int) many);
        }
    }
}
