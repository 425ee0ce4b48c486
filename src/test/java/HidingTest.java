import java.util.Random;

/** Promises 24 to 26. */
public final class HidingTest {
    private static final Due due = new Due();

    public static void main(String[] args) {
        leastPrice();
        alikePrices();
        wetPlaces();
        pricesAheadOfAll();
        nothingToHide();
        refusals();
        read();
        for (int seed = 0; seed < 400; seed++) againstAllSets(seed);
        due.end();
    }

    private static String dotsOf(HiddenWords x, int c, int r) {
        x.dots(c, r);
        return Due.rowOf(x, r);
    }

    private static void leastPrice() {
        HiddenWords x = new HiddenWords();
        // prices of the choices: 6, 4, 3; each sign of the line can turn its bit
        Due.row(x, 0, 0, 0, 0);
        Due.row(x, 1, 2, 3, 4);
        x.wordy(0, 0, 1);
        Due.text(x, 0, "111");
        x.code(0, 0);
        Due.row(x, 2, 1);
        due.is("price", x.price(0, 0, 0, 2), 3);
        due.is("DOTS that would be FLIPPED", x.asked(), 1);
        due.row("price changes nothing", x, 2, "[1]");
        due.is("hide", x.hide(0, 0, 0, 2), 3);
        due.is("hide tells nothing by asked()", Due.told(x, x.at(2, 0)), 1);
        due.is("the cheapest is FLIPPED", Due.told(x, x.dot(0, 2, 0)), 1);
        due.is("the others are not", Due.told(x, x.dot(0, 0, 0)) + Due.told(x, x.dot(0, 1, 0)), 0);
        due.is("it is there already", x.hide(0, 0, 0, 2), 0);
    }

    private static void alikePrices() {
        HiddenWords x = new HiddenWords();
        x.row(0, 4);
        x.cover(0, 0, 0);
        Due.text(x, 0, "1111");
        x.code(0, 0);
        Due.row(x, 1, 1);
        int first = x.place(0, 99, 0);
        due.is("hide", x.hide(0, 99, 0, 1), 10);
        due.is("the block's first place", Due.told(x, x.dot(0, first, 0)), 1);
        // the second line alone is turned by places 0 and 1, or by 2 and 3, at the same price
        x.cover(0, 0, 0);
        Due.text(x, 0, "1100/0110/0011");
        x.code(0, 0);
        Due.row(x, 1, 0, 1, 0);
        due.is("price of two", x.price(0, 7, 0, 1), 20);
        due.is("two of them", x.asked(), 2);
        x.hide(0, 7, 0, 1);
        int set = 0;
        for (int j = 0; j < 4; j++) set |= (int) Due.told(x, x.dot(0, x.place(0, 7, j), 0)) << j;
        due.is("the least set as bits", set, 3);
    }

    private static void wetPlaces() {
        HiddenWords x = new HiddenWords();
        Due.row(x, 0, 2, 4, 6);
        x.cover(0, 0, 0);
        Due.text(x, 0, "1");
        x.code(0, 0);
        Due.row(x, 1, 1, 1, 1);
        int last = x.place(0, 5, 2);
        x.wet(0, 1 << last);
        int asked = x.asked();
        due.is("a WET place can't be", x.hide(0, 5, 0, 1), HiddenWords.NONE);
        due.is("price of it", x.price(0, 5, 0, 1), HiddenWords.NONE);
        due.is("asked() is as it was", x.asked(), asked);
        due.is("no finding", x.finding(), 0);
        due.holds("nothing is FLIPPED", dotsOf(x, 0, 5).equals("[2 4 6]"));
        x.lay(1, 2, 0);
        due.is("a WET place may stay", x.hide(0, 5, 0, 1), 20);
        x.cover(1, 4, 0);
        due.is("all of an ORDERED one are WET", x.hide(1, 5, 0, 1), HiddenWords.NONE);
        Due.row(x, 1, 0, 0, 0);
        due.is("nothing to change", x.hide(1, 5, 0, 1), 0);
        Due.row(x, 2, 1, 1, 1);
        x.row(3, 3);
        x.wordy(2, 3, 2);
        due.is("single choices are WET", x.hide(2, 5, 0, 2), HiddenWords.NONE);
        Due.text(x, 0, "000");
        x.code(1, 0);
        Due.row(x, 2, 1);
        due.is("a line without 1s holds 0 alone", x.hide(0, 5, 1, 2), HiddenWords.NONE);
    }

    private static void pricesAheadOfAll() {
        HiddenWords x = new HiddenWords();
        Due.row(x, 0, 10, 10);
        x.grey(0, 0, 2, false);
        Due.text(x, 0, "1");
        x.code(0, 0);
        Due.row(x, 1, 1, 1);
        due.is("both at 61", x.price(0, 0, 0, 1), 122);
        due.is("both at 61", x.hide(0, 0, 0, 1), 122);
        due.holds("both are FLIPPED", dotsOf(x, 0, 5).equals("[11 11]"));
        x.grey(1, 0, 2, true);
        Due.row(x, 1, 0, 1);
        due.is("PRINTED: twice", x.hide(1, 0, 0, 1), 122);
    }

    private static void nothingToHide() {
        HiddenWords x = new HiddenWords();
        Due.row(x, 0, 3);
        x.cover(0, 0, 0);
        Due.text(x, 0, "11/01");
        x.code(0, 0);
        x.row(1, 0);
        due.is("no bits", x.hide(0, 1, 0, 1), 0);
        x.dot(0, 0, 0);
        due.is("no bits", x.price(0, 1, 0, 1), 0);
        due.is("no DOTS", x.asked(), 0);
    }

    private static void refusals() {
        for (int way = 0; way < 2; way++) {
            HiddenWords x = new HiddenWords();
            due.is("cover 6", call(x, way, 6, 0, 0), HiddenWords.BAD);
            due.is("cover -1", call(x, way, -1, 0, 0), HiddenWords.BAD);
            due.is("code 4", call(x, way, 0, 4, 0), HiddenWords.BAD);
            due.is("code -1", call(x, way, 0, -1, 0), HiddenWords.BAD);
            due.is("row 6", call(x, way, 0, 0, 6), HiddenWords.BAD);
            due.is("row -1", call(x, way, 0, 0, -1), HiddenWords.BAD);
            due.finds("nothing at all", x, 0, call(x, way, 0, 0, 0), 1);
            x.row(0, 5);
            x.cover(0, 0, 0);
            Due.text(x, 0, "11/01");
            due.finds("no code", x, 1, call(x, way, 0, 0, 0), 1);
            x.code(0, 0);
            due.finds("no row", x, 2, call(x, way, 0, 0, 1), 1);
            due.finds("no cover", x, 3, call(x, way, 1, 0, 0), 1);
            Due.row(x, 1, 0, 2, 1);
            due.finds("SIZE ahead of UNLIKE", x, 0, call(x, way, 0, 0, 1), 5);
            Due.row(x, 1, 0, 1, 1, 0, 1, -1);
            due.finds("UNLIKE ahead of BEYOND", x, 0, call(x, way, 0, 0, 1), 3);
            Due.row(x, 1, 0, 2);
            due.finds("a 2", x, 1, call(x, way, 0, 0, 1), 3);
            Due.row(x, 1, 0, 0, 0, 0, 0, 0);
            due.finds("BEYOND", x, 0, call(x, way, 0, 0, 1), 2);
            Due.row(x, 1, 0, 0, 0, 0);
            due.is("as much as room()", call(x, way, 0, 0, 1), 0);
        }
    }

    private static int call(HiddenWords x, int way, int c, int d, int r) {
        return way == 0 ? x.hide(c, 3, d, r) : x.price(c, 3, d, r);
    }

    private static void read() {
        HiddenWords x = new HiddenWords();
        due.is("cover 6", x.read(6, 0, 0, 0, 0), HiddenWords.BAD);
        due.is("cover -1", x.read(-1, 0, 0, 0, 0), HiddenWords.BAD);
        due.is("code 4", x.read(0, 0, 4, 0, 0), HiddenWords.BAD);
        due.is("code -1", x.read(0, 0, -1, 0, 0), HiddenWords.BAD);
        due.is("blocks -1", x.read(0, 0, 0, -1, 0), HiddenWords.BAD);
        due.is("blocks 41", x.read(0, 0, 0, 41, 0), HiddenWords.BAD);
        due.is("row 6", x.read(0, 0, 0, 0, 6), HiddenWords.BAD);
        due.is("row -1", x.read(0, 0, 0, 0, -1), HiddenWords.BAD);
        due.finds("no cover", x, 0, x.read(0, 0, 0, 0, 0), 1);
        Due.row(x, 0, 1, 0, 1, 1, 0);
        x.cover(0, 0, 0);
        due.finds("no code", x, 1, x.read(0, 0, 0, 0, 0), 1);
        Due.text(x, 0, "11/01");
        x.code(0, 0);
        due.is("no blocks", x.read(0, 0, 0, 0, 3), 0);
        due.row("a row of none", x, 3, "[]");
        due.is("two blocks", x.read(0, 0, 0, 2, 3), 4);
        int[] dots = {1, 0, 1, 1, 0};
        int[] bits = new int[4];
        for (int i = 0; i < 4; i++) bits[i] = dots[x.place(0, 0, i)];
        due.row("bits", x, 3, "[" + (bits[0] ^ bits[1]) + " " + bits[1] + " " + (bits[2] ^ bits[3]) + " " + bits[3] + "]");
        int beyond = x.findings(2);
        due.finds("three blocks", x, beyond, x.read(0, 0, 0, 3, 3), 2);
        x.row(0, 40);
        x.cover(0, 0, 0);
        Due.text(x, 0, "1/0");
        x.code(0, 0);
        due.is("40 bits", x.read(0, 0, 0, 20, 3), 40);
        due.finds("more than 40 bits", x, beyond + 1, x.read(0, 0, 0, 21, 3), 2);
        Due.text(x, 0, "1");
        x.code(0, 0);
        due.is("40 blocks", x.read(0, 0, 0, 40, 0), 40);
        Due.row(x, 1, 2, 3);
        x.grey(1, 1, 2, true);
        due.is("PRINTED", x.read(1, 0, 0, 2, 4), 2);
        due.row("BITS ahead of the last", x, 4, "[1 1]");
    }

    /** A COVER of any KIND and a CODE, hidden in by the class and by trying all sets of places. */
    private static void againstAllSets(int seed) {
        Random random = new Random(seed);
        HiddenWords x = new HiddenWords();
        int k = 1 + random.nextInt(4);
        int w = 1 + random.nextInt(8);
        int n = Math.min(40, w * (1 + random.nextInt(3)) + random.nextInt(w));
        int blocks = n / w;
        int[] lines = new int[k];
        StringBuilder text = new StringBuilder();
        for (int i = 0; i < k; i++) {
            if (i > 0) text.append('/');
            for (int j = 0; j < w; j++) {
                int sign = random.nextInt(2);
                lines[i] |= sign << j;
                text.append(sign);
            }
        }
        Due.text(x, 0, text.toString());
        x.code(0, 0);
        makeCover(x, random, n);
        if (random.nextBoolean()) x.wet(0, random.nextInt() & random.nextInt() & Integer.MAX_VALUE);
        int key = random.nextInt();
        x.row(3, k * blocks);
        for (int i = 0; i < k * blocks; i++) x.lay(3, i, random.nextInt(2));

        int[][] told = new int[n][5];
        for (int i = 0; i < n; i++) {
            for (int what = 0; what < 5; what++) told[i][what] = (int) Due.told(x, x.dot(0, i, what));
        }
        int[] after = new int[n];
        for (int i = 0; i < n; i++) after[i] = told[i][0];
        int sum = 0;
        int flips = 0;
        for (int b = 0; b < blocks && sum >= 0; b++) {
            int[] best = bestSet(x, told, lines, key, b, w, k);
            if (best == null) {
                sum = HiddenWords.NONE;
                break;
            }
            sum += best[1];
            flips += Integer.bitCount(best[0]);
            for (int j = 0; j < w; j++) {
                int place = x.place(0, key, b * w + j);
                if ((best[0] >> j & 1) == 1) after[place] = told[place][2];
            }
        }
        due.is("price, seed " + seed, x.price(0, key, 0, 3), sum);
        if (sum >= 0) due.is("asked, seed " + seed, x.asked(), flips);
        due.is("hide, seed " + seed, x.hide(0, key, 0, 3), sum);
        for (int i = 0; i < n; i++) {
            due.is("dot " + i + ", seed " + seed, Due.told(x, x.dot(0, i, 0)), sum >= 0 ? after[i] : told[i][0]);
        }
        if (sum >= 0 && k * blocks <= 40) {
            String wanted = Due.rowOf(x, 3);
            due.is("read, seed " + seed, x.read(0, key, 0, blocks, 4), k * blocks);
            due.row("read again, seed " + seed, x, 4, wanted);
        }
    }

    private static void makeCover(HiddenWords x, Random random, int n) {
        int kind = random.nextInt(4);
        x.row(0, n);
        x.row(1, n);
        int reach = 1 + random.nextInt(40);
        for (int i = 0; i < n; i++) {
            int choices = 1 + random.nextInt(9);
            x.lay(1, i, choices);
            x.lay(0, i, kind == 3 ? random.nextInt(choices) : random.nextInt(reach));
        }
        if (kind == 3) x.wordy(0, 0, 1);
        else if (kind == 0) x.cover(0, 0, 0);
        else x.grey(0, 0, 1 + random.nextInt(8), kind == 2);
    }

    private static int[] bestSet(HiddenWords x, int[][] told, int[] lines, int key, int b, int w, int k) {
        int[] best = null;
        for (int set = 0; set < 1 << w; set++) {
            int price = 0;
            int bits = 0;
            boolean dry = true;
            for (int j = 0; j < w; j++) {
                int[] place = told[x.place(0, key, b * w + j)];
                boolean flipped = (set >> j & 1) == 1;
                if (flipped && place[4] == 1) dry = false;
                if (flipped) price += place[3];
                bits |= (place[1] ^ (flipped ? 1 : 0)) << j;
            }
            boolean holds = dry;
            for (int i = 0; i < k; i++) {
                if (Integer.bitCount(bits & lines[i]) % 2 != Due.told(x, x.at(3, b * k + i))) holds = false;
            }
            if (holds && (best == null || price < best[1])) best = new int[] {set, price};
        }
        return best;
    }
}
