import java.math.BigInteger;
import java.util.ArrayList;
import java.util.Arrays;
import java.util.Collections;
import java.util.HashMap;
import java.util.List;
import java.util.Map;
import java.util.regex.Matcher;
import java.util.regex.Pattern;

/**
 * The document said once more, as plainly and as slowly as can be, for TwinTest: all sets of places
 * are tried, all gangs, all sums of signs; a FAULT is where no CODE's TEXT begins so any more.
 */
public final class PlainWords {
    private static final int BAD = -1, FINDING = -3, STATE = -4, SPENT = -6, NONE = -9;
    private static final int NOTHING = 1, BEYOND = 2, UNLIKE = 3, NOUGHT = 4, SIZE = 5;
    private static final BigInteger PRIME = BigInteger.valueOf(251);

    /** Thrown where a call is refused, so that each call reads as the document does. */
    static final class Refused extends RuntimeException {
        private static final long serialVersionUID = 1;
        final int answer;

        Refused(int answer) {
            super(null, null, false, false);
            this.answer = answer;
        }
    }

    private static final class Picture {
        int kind;
        int[] dots;
        int[] choices;
        int lineLength;
        int wetBits;

        Picture(int kind, int[] dots) {
            this.kind = kind;
            this.dots = dots.clone();
        }

        boolean grey() {
            return kind == 1 || kind == 2;
        }

        int bit(int i) {
            return kind == 2 ? dots[i] / 2 % 2 : dots[i] % 2;
        }

        int flipped(int i) {
            if (kind == 2) return bit(i) == 1 ? dots[i] - 2 : dots[i] + 2;
            if (kind != 3) return bit(i) == 1 ? dots[i] - 1 : dots[i] + 1;
            if (choices[i] == 1) return dots[i];
            return dots[i] == choices[i] - 1 ? dots[i] - 1 : dots[i] + 1;
        }

        boolean wet(int i) {
            if (kind == 4) return true;
            if (kind == 3 && choices[i] == 1) return true;
            return BigInteger.valueOf(wetBits).testBit(i);
        }

        int price(int i) {
            if (kind == 3) return 12 / choices[i];
            if (!grey()) return 10;
            int differences = 0;
            for (int j = 0; j < dots.length; j++) {
                int lines = Math.abs(i / lineLength - j / lineLength);
                int columns = Math.abs(i % lineLength - j % lineLength);
                if (lines + columns == 1) differences += Math.abs(dots[i] - dots[j]);
            }
            return (60 / (1 + differences) + 1) * (kind == 2 ? 2 : 1);
        }

        int tell(int i, int what) {
            int[] all = {dots[i], bit(i), flipped(i), price(i), wet(i) ? 1 : 0};
            return all[what];
        }
    }

    private final int[][] rows = new int[6][];
    private final byte[][] texts = new byte[4][];
    private final Picture[] covers = new Picture[6];
    private final String[][] codes = new String[4][];
    private int asked = 0;
    private BigInteger upper = BigInteger.ZERO;
    private BigInteger lower = BigInteger.ONE;
    private final List<Integer> found = new ArrayList<>();

    private static void bad(boolean whether) {
        if (whether) throw new Refused(BAD);
    }

    private static void notWithin(int v, int least, int most) {
        bad(v < least || v > most);
    }

    private void find(boolean whether, int finding) {
        if (!whether) return;
        found.add(finding);
        throw new Refused(FINDING);
    }

    private void fraction(BigInteger above, BigInteger below) {
        BigInteger common = above.gcd(below);
        upper = above.divide(common);
        lower = below.divide(common);
    }

    private static boolean outside(int[] all, int least, int most) {
        for (int v : all) {
            if (v < least || v > most) return true;
        }
        return false;
    }

    // ---- 1 rows, texts, covers

    public int row(int r, int n) {
        notWithin(r, 0, 5);
        bad(n > 40);
        find(n < 0, SIZE);
        rows[r] = new int[n];
        return n;
    }

    public int lay(int r, int i, int v) {
        at(r, i);
        rows[r][i] = v;
        return 1;
    }

    public int at(int r, int i) {
        notWithin(r, 0, 5);
        find(rows[r] == null, NOTHING);
        find(i < 0 || i >= rows[r].length, BEYOND);
        asked = rows[r][i];
        return 1;
    }

    public int tear(int r) {
        notWithin(r, 0, 5);
        find(rows[r] == null, NOTHING);
        rows[r] = null;
        return 1;
    }

    public int copy(int r, int i, int to, int j, int n) {
        notWithin(r, 0, 5);
        notWithin(to, 0, 5);
        find(n < 0, SIZE);
        find(rows[r] == null || rows[to] == null, NOTHING);
        find(i < 0 || (long) i + n > rows[r].length, BEYOND);
        find(j < 0 || (long) j + n > rows[to].length, BEYOND);
        int[] taken = rows[r].clone();
        for (int k = 0; k < n; k++) rows[to][j + k] = taken[i + k];
        return 1;
    }

    public int mean(int r) {
        notWithin(r, 0, 5);
        find(rows[r] == null, NOTHING);
        find(rows[r].length == 0, NOUGHT);
        BigInteger sum = BigInteger.ZERO;
        for (int v : rows[r]) sum = sum.add(BigInteger.valueOf(v));
        asked = sum.divide(BigInteger.valueOf(rows[r].length)).intValueExact();
        return 1;
    }

    public int text(int t, int n) {
        notWithin(t, 0, 3);
        bad(n > 60);
        find(n < 0, SIZE);
        texts[t] = new byte[n];
        Arrays.fill(texts[t], (byte) ' ');
        return n;
    }

    public int put(int t, int i, int v) {
        notWithin(t, 0, 3);
        find(texts[t] == null, NOTHING);
        find(i < 0 || i >= texts[t].length, BEYOND);
        int before = texts[t][i];
        texts[t][i] = (byte) v;
        return before + 1000;
    }

    private Picture drawn(int kind, int r) {
        find(rows[r] == null, NOTHING);
        find(rows[r].length == 0, SIZE);
        find(outside(rows[r], 0, 255), UNLIKE);
        find(kind == 4 && Arrays.stream(rows[r]).distinct().count() < rows[r].length, UNLIKE);
        return new Picture(kind, rows[r]);
    }

    public int cover(int c, int kind, int r) {
        notWithin(c, 0, 5);
        notWithin(r, 0, 5);
        bad(kind != 0 && kind != 4);
        covers[c] = drawn(kind, r);
        return rows[r].length;
    }

    public int grey(int c, int r, int w, boolean printed) {
        notWithin(c, 0, 5);
        notWithin(r, 0, 5);
        notWithin(w, 1, 40);
        covers[c] = drawn(printed ? 2 : 1, r);
        covers[c].lineLength = w;
        return rows[r].length;
    }

    public int wordy(int c, int r, int choices) {
        notWithin(c, 0, 5);
        notWithin(r, 0, 5);
        notWithin(choices, 0, 5);
        find(rows[r] == null || rows[choices] == null, NOTHING);
        find(rows[r].length == 0 || rows[r].length != rows[choices].length, SIZE);
        find(outside(rows[choices], 1, 9), UNLIKE);
        for (int i = 0; i < rows[r].length; i++) find(rows[r][i] < 0 || rows[r][i] >= rows[choices][i], UNLIKE);
        covers[c] = new Picture(3, rows[r]);
        covers[c].choices = rows[choices].clone();
        return rows[r].length;
    }

    /** A COVER that is there; all calls that name one begin so. */
    private Picture there(int c) {
        notWithin(c, 0, 5);
        find(covers[c] == null, NOTHING);
        return covers[c];
    }

    public int wet(int c, int bits) {
        notWithin(c, 0, 5);
        bad(bits < 0);
        Picture cover = there(c);
        cover.wetBits = bits;
        int n = 0;
        for (int i = 0; i < cover.dots.length; i++) n += cover.tell(i, 4);
        return n;
    }

    public int drop(int c) {
        there(c);
        covers[c] = null;
        return 1;
    }

    public int dots(int c, int r) {
        notWithin(c, 0, 5);
        notWithin(r, 0, 5);
        rows[r] = there(c).dots.clone();
        return rows[r].length;
    }

    public int dot(int c, int i, int what) {
        notWithin(c, 0, 5);
        notWithin(what, 0, 4);
        Picture cover = there(c);
        find(i < 0 || i >= cover.dots.length, BEYOND);
        asked = cover.tell(i, what);
        return 1;
    }

    public int kind(int c) {
        return there(c).kind;
    }

    public int mark(int c, int kind) {
        notWithin(c, 0, 5);
        notWithin(kind, 1, 4);
        Picture cover = there(c);
        find(!(cover.kind == kind || cover.kind == 2 && kind == 1), UNLIKE);
        int n = cover.dots.length;
        if (kind == 1) return n / cover.lineLength + (n % cover.lineLength == 0 ? 0 : 1);
        if (kind == 2) return (int) Arrays.stream(cover.dots).filter(d -> d > 127).count();
        if (kind == 3) return Arrays.stream(cover.choices).sum();
        int less = 0;
        for (int i = 1; i < n; i++) less += cover.dots[i] < cover.dots[i - 1] ? 1 : 0;
        return less;
    }

    // ---- 2 keys, codes, hiding

    private static BigInteger next(BigInteger l) {
        return BigInteger.valueOf(l.multiply(BigInteger.valueOf(1103515245)).add(BigInteger.valueOf(12345)).intValue());
    }

    private static int bits(BigInteger l) {
        return l.shiftRight(16).mod(BigInteger.valueOf(32768)).intValue();
    }

    private static List<Integer> upTo(int n) {
        List<Integer> places = new ArrayList<>();
        for (int i = 0; i < n; i++) places.add(i);
        return places;
    }

    private static List<Integer> order(int key, int n) {
        List<Integer> places = upTo(n);
        BigInteger l = BigInteger.valueOf(key);
        for (int i = n - 1; i >= 1; i--) {
            l = next(l);
            Collections.swap(places, i, bits(l) % (i + 1));
        }
        return places;
    }

    public int place(int c, int key, int i) {
        Picture cover = there(c);
        find(i < 0 || i >= cover.dots.length, BEYOND);
        return order(key, cover.dots.length).get(i);
    }

    /** 2: a CODE's TEXT; 1: one could begin so; 0: none does. */
    private static int codeLike(String text) {
        int best = 0;
        for (int w = 1; w <= 12; w++) {
            Matcher matcher = Pattern.compile(" *[01]{" + w + "}(/[01]{" + w + "}){0,5} *").matcher(text);
            if (matcher.matches()) return 2;
            if (matcher.hitEnd()) best = 1;
        }
        return best;
    }

    private String signs(int t) {
        StringBuilder all = new StringBuilder();
        for (byte b : texts[t]) all.append((char) (b & 255));
        return all.toString();
    }

    public int fault(int t) {
        notWithin(t, 0, 3);
        find(texts[t] == null, NOTHING);
        String all = signs(t);
        for (int i = 0; i < all.length(); i++) {
            if (codeLike(all.substring(0, i + 1)) == 0) return i;
        }
        return codeLike(all) == 2 ? NONE : all.length();
    }

    public int code(int d, int t) {
        notWithin(d, 0, 3);
        if (fault(t) != NONE) throw new Refused(STATE);
        codes[d] = signs(t).trim().split("/");
        return codes[d].length;
    }

    private String[] codeThere(int d) {
        notWithin(d, 0, 3);
        find(codes[d] == null, NOTHING);
        return codes[d];
    }

    public int line(int d, int i) {
        String[] code = codeThere(d);
        find(i < 0 || i >= code.length, BEYOND);
        return Integer.parseInt(new StringBuilder(code[i]).reverse().toString(), 2);
    }

    public int room(int c, int d) {
        notWithin(c, 0, 5);
        notWithin(d, 0, 3);
        return there(c).dots.length / codeThere(d)[0].length() * codes[d].length;
    }

    /** The bits that places hold, with a set of them the other way. */
    private static String held(Picture cover, List<Integer> places, String[] code, int turned) {
        StringBuilder all = new StringBuilder();
        for (String line : code) {
            int sum = 0;
            for (int j = 0; j < places.size(); j++) {
                if (line.charAt(j) == '1') sum += cover.bit(places.get(j)) + (turned >> j) % 2;
            }
            all.append(sum % 2);
        }
        return all.toString();
    }

    /** The cheapest set of a BLOCK's places and what it takes, or null. */
    private static int[] cheapest(Picture cover, List<Integer> places, String[] code, String wanted) {
        int[] best = null;
        for (int set = 0; set < 1 << places.size(); set++) {
            int price = 0;
            boolean dry = true;
            for (int j = 0; j < places.size(); j++) {
                if ((set >> j) % 2 == 0) continue;
                price += cover.price(places.get(j));
                dry &= !cover.wet(places.get(j));
            }
            if (!dry || best != null && price >= best[1]) continue;
            if (held(cover, places, code, set).equals(wanted)) best = new int[] {set, price};
        }
        return best;
    }

    /** Sum of PRICES and the DOTS as they would be; null: it can't be. */
    private Picture hidden(int c, int key, int d, int r, int[] sums) {
        notWithin(c, 0, 5);
        notWithin(d, 0, 3);
        notWithin(r, 0, 5);
        find(covers[c] == null || codes[d] == null || rows[r] == null, NOTHING);
        Picture cover = covers[c];
        String[] code = codes[d];
        int w = code[0].length();
        find(rows[r].length % code.length != 0, SIZE);
        find(outside(rows[r], 0, 1), UNLIKE);
        find(rows[r].length > room(c, d), BEYOND);
        List<Integer> all = order(key, cover.dots.length);
        Picture after = new Picture(cover.kind, cover.dots);
        for (int b = 0; b < rows[r].length / code.length; b++) {
            StringBuilder wanted = new StringBuilder();
            for (int i = 0; i < code.length; i++) wanted.append(rows[r][b * code.length + i]);
            List<Integer> places = all.subList(b * w, b * w + w);
            int[] best = cheapest(cover, places, code, wanted.toString());
            if (best == null) return null;
            sums[0] += best[1];
            for (int j = 0; j < w; j++) {
                if ((best[0] >> j) % 2 == 0) continue;
                sums[1]++;
                after.dots[places.get(j)] = cover.flipped(places.get(j));
            }
        }
        return after;
    }

    /** How many lines a CODE has; 0: missing. */
    int linesOf(int d) {
        return codes[d] == null ? 0 : codes[d].length;
    }

    /** How many whole BLOCKS there are; 0, too, if the COVER or the CODE is missing. */
    int blocksOf(int c, int d) {
        return covers[c] == null || codes[d] == null ? 0 : covers[c].dots.length / codes[d][0].length();
    }

    public int hide(int c, int key, int d, int r) {
        int[] sums = new int[2];
        Picture after = hidden(c, key, d, r, sums);
        if (after == null) return NONE;
        covers[c].dots = after.dots;
        return sums[0];
    }

    public int price(int c, int key, int d, int r) {
        int[] sums = new int[2];
        if (hidden(c, key, d, r, sums) == null) return NONE;
        asked = sums[1];
        return sums[0];
    }

    public int read(int c, int key, int d, int blocks, int r) {
        notWithin(c, 0, 5);
        notWithin(d, 0, 3);
        notWithin(r, 0, 5);
        notWithin(blocks, 0, 40);
        find(covers[c] == null || codes[d] == null, NOTHING);
        int w = codes[d][0].length();
        find(blocks > covers[c].dots.length / w || blocks * codes[d].length > 40, BEYOND);
        List<Integer> all = order(key, covers[c].dots.length);
        StringBuilder bits = new StringBuilder();
        for (int b = 0; b < blocks; b++) bits.append(held(covers[c], all.subList(b * w, b * w + w), codes[d], 0));
        rows[r] = bits.chars().map(sign -> sign - '0').toArray();
        return rows[r].length;
    }

    private Map<String, Integer> fewest(int d) {
        String[] code = codeThere(d);
        int w = code[0].length();
        Picture even = new Picture(0, new int[w]);
        Map<String, Integer> all = new HashMap<>();
        for (int set = 0; set < 1 << w; set++) all.merge(held(even, upTo(w), code, set), Integer.bitCount(set), Math::min);
        return all;
    }

    public int changes(int d) {
        Map<String, Integer> all = fewest(d);
        int sum = 0;
        for (int n : all.values()) sum += n;
        fraction(BigInteger.valueOf(sum), BigInteger.valueOf(all.size()));
        return Collections.max(all.values());
    }

    public int reach(int d) {
        return fewest(d).size();
    }

    // ---- 3 parts, marks

    public int parts(int v, int t, int n, int key, int r) {
        notWithin(v, 0, 250);
        notWithin(t, 1, 5);
        notWithin(n, t, 10);
        notWithin(r, 0, 5);
        int[] all = new int[n];
        for (int i = 1; i <= n; i++) {
            BigInteger l = BigInteger.valueOf(key);
            BigInteger sum = BigInteger.valueOf(v);
            for (int power = 1; power < t; power++) {
                l = next(l);
                sum = sum.add(BigInteger.valueOf(bits(l) % 251).multiply(BigInteger.valueOf(i).pow(power)));
            }
            all[i - 1] = sum.mod(PRIME).intValue();
        }
        rows[r] = all;
        return n;
    }

    public int join(int r) {
        notWithin(r, 0, 5);
        find(rows[r] == null, NOTHING);
        int[] pairs = rows[r];
        find(pairs.length == 0 || pairs.length > 10 || pairs.length % 2 == 1, SIZE);
        List<Integer> seen = new ArrayList<>();
        for (int j = 0; j < pairs.length; j += 2) {
            find(pairs[j] < 1 || pairs[j] > 10 || seen.contains(pairs[j]), UNLIKE);
            find(pairs[j + 1] < 0 || pairs[j + 1] > 250, UNLIKE);
            seen.add(pairs[j]);
        }
        BigInteger sum = BigInteger.ZERO;
        for (int j = 0; j < pairs.length; j += 2) {
            BigInteger term = BigInteger.valueOf(pairs[j + 1]);
            for (int m = 0; m < pairs.length; m += 2) {
                if (m == j) continue;
                BigInteger below = BigInteger.valueOf(pairs[m] - pairs[j]).modInverse(PRIME);
                term = term.multiply(BigInteger.valueOf(pairs[m])).multiply(below);
            }
            sum = sum.add(term);
        }
        return sum.mod(PRIME).intValue();
    }

    private static int[] signs(int key, int n) {
        int[] all = new int[n];
        BigInteger l = BigInteger.valueOf(key);
        for (int i = 0; i < n; i++) {
            l = next(l);
            all[i] = bits(l) % 2 == 1 ? 1 : -1;
        }
        return all;
    }

    public int spread(int c, int key, int a) {
        notWithin(c, 0, 5);
        notWithin(a, 1, 20);
        Picture cover = there(c);
        find(cover.kind == 3 || cover.kind == 4, UNLIKE);
        int[] signs = signs(key, cover.dots.length);
        int kept = 0;
        for (int i = 0; i < cover.dots.length; i++) {
            cover.dots[i] += signs[i] * a;
            if (cover.dots[i] >= 0 && cover.dots[i] <= 255) continue;
            kept++;
            cover.dots[i] = cover.dots[i] < 0 ? 0 : 255;
        }
        return kept;
    }

    private static int sumOf(Picture cover, int key, int shift) {
        int n = cover.dots.length;
        int[] signs = signs(key, n);
        int sum = 0;
        for (int i = 0; i < n; i++) sum += signs[(i + shift) % n] * cover.dots[i];
        return sum;
    }

    public int sum(int c, int key, int s) {
        notWithin(c, 0, 5);
        notWithin(s, 0, 39);
        asked = sumOf(there(c), key, s);
        return 1;
    }

    public int lineUp(int c, int key) {
        Picture cover = there(c);
        List<Integer> sums = new ArrayList<>();
        for (int s = 0; s < cover.dots.length; s++) sums.add(sumOf(cover, key, s));
        asked = Collections.max(sums);
        return sums.indexOf(asked);
    }

    public int falseShare(int c, int sum) {
        notWithin(c, 0, 5);
        notWithin(sum, -10200, 10200);
        Picture cover = there(c);
        Map<Integer, BigInteger> ways = new HashMap<>();
        ways.put(0, BigInteger.ONE);
        for (int dot : cover.dots) {
            Map<Integer, BigInteger> more = new HashMap<>();
            ways.forEach((s, many) -> {
                more.merge(s + dot, many, BigInteger::add);
                more.merge(s - dot, many, BigInteger::add);
            });
            ways = more;
        }
        BigInteger great = BigInteger.ZERO;
        for (Map.Entry<Integer, BigInteger> way : ways.entrySet()) {
            if (way.getKey() >= sum) great = great.add(way.getValue());
        }
        fraction(great, BigInteger.TWO.pow(cover.dots.length));
        return 1;
    }

    public int cut(int c, int i, int m, int to) {
        notWithin(c, 0, 5);
        notWithin(to, 0, 5);
        bad(m < 1);
        Picture cover = there(c);
        find(i < 0 || (long) i + m > cover.dots.length, BEYOND);
        covers[to] = new Picture(0, Arrays.copyOfRange(cover.dots, i, i + m));
        return m;
    }

    // ---- 4 gangs, models, orders

    private int[] names(int r) {
        find(rows[r] == null, NOTHING);
        find(rows[r].length < 1 || rows[r].length > 10, SIZE);
        find(outside(rows[r], 0, 4095), UNLIKE);
        return rows[r];
    }

    private static boolean canMake(int[] names, int gang, int copy) {
        for (int place = 0; place < 12; place++) {
            boolean one = false;
            for (int i = 0; i < names.length; i++) {
                boolean alike = (names[i] >> place) % 2 == (copy >> place) % 2;
                if ((gang >> i) % 2 == 1 && alike) one = true;
            }
            if (!one) return false;
        }
        return true;
    }

    public int makes(int r, int gang, int copy) {
        notWithin(r, 0, 5);
        notWithin(copy, 0, 4095);
        bad(gang <= 0);
        int[] names = names(r);
        bad(gang >= Math.pow(2, names.length));
        return canMake(names, gang, copy) ? 1 : 0;
    }

    public int guilty(int r, int g, int copy) {
        notWithin(r, 0, 5);
        notWithin(g, 1, 4);
        notWithin(copy, 0, 4095);
        int[] names = names(r);
        List<Integer> gangs = new ArrayList<>();
        for (int gang = 1; gang < 1 << names.length; gang++) {
            if (Integer.bitCount(gang) <= g && canMake(names, gang, copy)) gangs.add(gang);
        }
        asked = gangs.isEmpty() ? 0 : gangs.stream().reduce((a, b) -> a & b).get();
        return gangs.size();
    }

    public int apart(int r) {
        notWithin(r, 0, 5);
        int[] names = names(r);
        int least = 99;
        for (int i = 0; i < names.length; i++) {
            for (int j = 0; j < names.length; j++) {
                if (i != j) least = Math.min(least, Integer.bitCount(names[i] ^ names[j]));
            }
        }
        return least == 99 ? NONE : least;
    }

    private static int[] model(Picture cover) {
        int[] counts = new int[8];
        for (int dot : cover.dots) counts[dot % 8]++;
        return counts;
    }

    private void lookAtModels(int[]... models) {
        for (int[] model : models) find(model.length != 8, SIZE);
        for (int[] model : models) find(outside(model, 0, 999), UNLIKE);
        for (int[] model : models) find(Arrays.stream(model).sum() == 0, NOUGHT);
    }

    private static Ratio share(int[] model, int i) {
        return new Ratio(model[i], Arrays.stream(model).sum());
    }

    private static Ratio far(int[] one, int[] other) {
        Ratio sum = new Ratio(0, 1);
        for (int i = 0; i < 8; i++) {
            Ratio gap = share(one, i).less(share(other, i));
            sum = sum.plus(new Ratio(gap.upper.abs(), gap.lower));
        }
        return new Ratio(sum.upper, sum.lower.multiply(BigInteger.TWO));
    }

    public int howFar(int c, int model) {
        notWithin(c, 0, 5);
        notWithin(model, 0, 5);
        find(covers[c] == null || rows[model] == null, NOTHING);
        lookAtModels(rows[model]);
        Ratio far = far(model(covers[c]), rows[model]);
        fraction(far.upper, far.lower);
        return 1;
    }

    public int bestTest(int one, int other) {
        notWithin(one, 0, 5);
        notWithin(other, 0, 5);
        find(rows[one] == null || rows[other] == null, NOTHING);
        lookAtModels(rows[one], rows[other]);
        Ratio best = new Ratio(1, 1).less(far(rows[one], rows[other]));
        fraction(best.upper, best.lower);
        asked = 0;
        for (int i = 0; i < 8; i++) {
            if (share(rows[one], i).less(share(rows[other], i)).upper.signum() > 0) asked += 1 << i;
        }
        return 1;
    }

    public int learn(int c, int r) {
        notWithin(c, 0, 5);
        notWithin(r, 0, 5);
        rows[r] = model(there(c));
        return (int) Arrays.stream(rows[r]).filter(n -> n > 0).count();
    }

    public int pairs(int c) {
        Picture cover = there(c);
        Ratio sum = new Ratio(0, 1);
        int there = 0;
        for (int i = 0; i < 128; i++) {
            int even = 2 * i;
            long a = Arrays.stream(cover.dots).filter(d -> d == even).count();
            long b = Arrays.stream(cover.dots).filter(d -> d == even + 1).count();
            if (a + b == 0) continue;
            there++;
            sum = sum.plus(new Ratio((a - b) * (a - b), a + b));
        }
        fraction(sum.upper, sum.lower);
        return there;
    }

    private static BigInteger orders(int n) {
        BigInteger all = BigInteger.ONE;
        for (int i = 2; i <= n; i++) all = all.multiply(BigInteger.valueOf(i));
        return all;
    }

    public int rank(int c) {
        Picture cover = there(c);
        find(cover.kind != 4, UNLIKE);
        List<Integer> left = new ArrayList<>();
        for (int dot : cover.dots) left.add(dot);
        Collections.sort(left);
        BigInteger rank = BigInteger.ZERO;
        for (int dot : cover.dots) {
            int ahead = left.indexOf(dot);
            left.remove(ahead);
            rank = rank.add(orders(left.size()).multiply(BigInteger.valueOf(ahead)));
        }
        return rank.mod(BigInteger.valueOf(1000003)).intValue();
    }

    public int arrange(int c, int rank) {
        notWithin(c, 0, 5);
        bad(rank < 0);
        Picture cover = there(c);
        find(cover.kind != 4, UNLIKE);
        if (cover.dots.length > 10) throw new Refused(SPENT);
        find(orders(cover.dots.length).compareTo(BigInteger.valueOf(rank)) <= 0, BEYOND);
        List<Integer> left = new ArrayList<>();
        for (int dot : cover.dots) left.add(dot);
        Collections.sort(left);
        int rest = rank;
        for (int i = 0; i < cover.dots.length; i++) {
            int each = orders(left.size() - 1).intValueExact();
            cover.dots[i] = left.remove(rest / each);
            rest %= each;
        }
        return 1;
    }

    // ---- 5 what is told

    public int asked() {
        return asked;
    }

    public long upper() {
        return upper.longValueExact();
    }

    public long lower() {
        return lower.longValueExact();
    }

    public int count(int what) {
        notWithin(what, 0, 5);
        int[] n = new int[6];
        for (int[] row : rows) n[0] += row == null ? 0 : 1;
        for (byte[] text : texts) n[1] += text == null ? 0 : 1;
        for (String[] code : codes) n[4] += code == null ? 0 : 1;
        for (Picture cover : covers) {
            if (cover == null) continue;
            n[2]++;
            n[3] += cover.grey() ? 1 : 0;
            n[5] += cover.dots.length;
        }
        return n[what];
    }

    public int finding() {
        return found.isEmpty() ? 0 : found.get(found.size() - 1);
    }

    public int findings(int f) {
        notWithin(f, 1, 5);
        return Collections.frequency(found, f);
    }

    public long digest() {
        List<Long> all = new ArrayList<>();
        for (int what = 0; what <= 5; what++) all.add((long) count(what));
        for (Picture cover : covers) {
            all.add(cover == null ? -1L : cover.kind);
            if (cover == null) continue;
            all.add((long) cover.dots.length);
            for (int i = 0; i < cover.dots.length; i++) {
                for (int what = 0; what <= 4; what++) all.add((long) cover.tell(i, what));
            }
        }
        for (int d = 0; d < codes.length; d++) {
            all.add(codes[d] == null ? -1L : codes[d].length);
            if (codes[d] == null) continue;
            all.add((long) codes[d][0].length());
            for (int i = 0; i < codes[d].length; i++) all.add((long) line(d, i));
        }
        for (int[] row : rows) {
            all.add(row == null ? -1L : row.length);
            if (row != null) for (int v : row) all.add((long) v);
        }
        for (byte[] text : texts) {
            all.add(text == null ? -1L : text.length);
            if (text != null) for (byte v : text) all.add((long) v);
        }
        long h = 17;
        for (long v : all) h = 31 * h + v;
        return h;
    }
}
