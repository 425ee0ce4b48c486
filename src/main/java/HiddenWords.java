import java.util.Arrays;

/**
 * Words hidden in pictures. Words in capitals are terms of the document, which tells what each
 * call answers and the order in which it looks for a reason to refuse.
 *
 * <p>All rows are made by the constructor and used again, so that a long run of calls makes
 * nothing new.
 */
public final class HiddenWords {
    public static final int BAD = -1, FULL = -2, FINDING = -3, STATE = -4, SPENT = -6, NONE = -9;

    private static final int NOTHING = 1, BEYOND = 2, UNLIKE = 3, NOUGHT = 4, SIZE = 5;
    private static final int COVER = 0, GREY = 1, PRINTED = 2, WORDY = 3, ORDERED = 4;

    private static final int MOST_PLACES = 40, MOST_BYTES = 60;
    private static final int MOST_DOT = 255, MOST_CHOICES = 9, LAST_WET_BIT = 30;
    private static final int BLANK = 32, SLASH = 47, ZERO = 48, ONE = 49;
    private static final int MOST_LINES = 6, MOST_SIGNS = 12;
    private static final int PART_PRIME = 251, MOST_PARTS = 10, MOST_NEEDED = 5;
    private static final int MOST_STRENGTH = 20, MOST_SUM = MOST_PLACES * MOST_DOT;
    private static final int MOST_NAMES = 10, MOST_GANG = 4, ALL_OF_A_NAME = 4095;
    private static final int MODEL_SIZE = 8, MOST_COUNT = 999;
    private static final int RANK_PRIME = 1000003, MOST_ARRANGED = 10;

    private final Row[] rows = new Row[6];
    private final Row[] texts = new Row[4];
    private final Cover[] covers = new Cover[6];
    private final Code[] codes = new Code[4];

    private final Code draft = new Code();
    private final Row learned = new Row();
    private final Hiding hiding = new Hiding();
    private final Mark signs = new Mark();
    private final Fraction told = new Fraction();
    private int answer = 0;
    private int latestFinding = 0;
    private final int[] findingCounts = new int[6];

    public HiddenWords() {
        for (int r = 0; r < rows.length; r++) rows[r] = new Row();
        for (int t = 0; t < texts.length; t++) texts[t] = new Row();
        for (int c = 0; c < covers.length; c++) covers[c] = new Cover();
        for (int d = 0; d < codes.length; d++) codes[d] = new Code();
    }

    // ---- 1 rows, texts, covers

    public int row(int r, int n) {
        if (!isRow(r) || n > MOST_PLACES) return BAD;
        if (n < 0) return found(SIZE);
        rows[r].renew(n, 0);
        return n;
    }

    public int lay(int r, int i, int v) {
        if (!isRow(r)) return BAD;
        Row row = rows[r];
        if (row.isMissing()) return found(NOTHING);
        if (!row.has(i)) return found(BEYOND);
        answer = row.get(i);
        row.set(i, v);
        return 1;
    }

    public int at(int r, int i) {
        if (!isRow(r)) return BAD;
        Row row = rows[r];
        if (row.isMissing()) return found(NOTHING);
        if (!row.has(i)) return found(BEYOND);
        answer = row.get(i);
        return 1;
    }

    public int tear(int r) {
        if (!isRow(r)) return BAD;
        if (rows[r].isMissing()) return found(NOTHING);
        rows[r].lose();
        return 1;
    }

    public int copy(int r, int i, int to, int j, int n) {
        if (!isRow(r) || !isRow(to)) return BAD;
        if (n < 0) return found(SIZE);
        Row from = rows[r];
        Row into = rows[to];
        if (from.isMissing() || into.isMissing()) return found(NOTHING);
        if (!from.hasSpan(i, n) || !into.hasSpan(j, n)) return found(BEYOND);
        System.arraycopy(from.cells, i, into.cells, j, n);
        return 1;
    }

    public int mean(int r) {
        if (!isRow(r)) return BAD;
        Row row = rows[r];
        if (row.isMissing()) return found(NOTHING);
        if (row.size < 1) return found(NOUGHT);
        answer = (int) (row.total() / row.size);
        return 1;
    }

    public int text(int t, int n) {
        if (!isText(t) || n > MOST_BYTES) return BAD;
        if (n < 0) return found(SIZE);
        texts[t].renew(n, BLANK);
        return n;
    }

    public int put(int t, int i, int v) {
        if (!isText(t)) return BAD;
        Row text = texts[t];
        if (text.isMissing()) return found(NOTHING);
        if (!text.has(i)) return found(BEYOND);
        int before = text.get(i);
        text.set(i, (byte) v);
        return before + 1000;
    }

    public int cover(int c, int kind, int r) {
        if (!isCover(c) || !isRow(r) || kind != COVER && kind != ORDERED) return BAD;
        return drawn(covers[c], rows[r], kind, 0);
    }

    public int grey(int c, int r, int w, boolean printed) {
        if (!isCover(c) || !isRow(r) || w < 1 || w > MOST_PLACES) return BAD;
        return drawn(covers[c], rows[r], printed ? PRINTED : GREY, w);
    }

    public int wordy(int c, int r, int choices) {
        if (!isCover(c) || !isRow(r) || !isRow(choices)) return BAD;
        Row dots = rows[r];
        Row counts = rows[choices];
        if (dots.isMissing() || counts.isMissing()) return found(NOTHING);
        if (dots.size < 1 || dots.size != counts.size) return found(SIZE);
        if (!areChoices(dots, counts)) return found(UNLIKE);
        covers[c].renew(dots, WORDY, 0);
        covers[c].takeChoices(counts);
        return dots.size;
    }

    public int wet(int c, int bits) {
        if (!isCover(c) || bits < 0) return BAD;
        Cover cover = covers[c];
        if (cover.isMissing()) return found(NOTHING);
        cover.wetBits = bits;
        return cover.countWet();
    }

    public int drop(int c) {
        if (!isCover(c)) return BAD;
        if (covers[c].isMissing()) return found(NOTHING);
        covers[c].lose();
        return 1;
    }

    public int dots(int c, int r) {
        if (!isCover(c) || !isRow(r)) return BAD;
        Cover cover = covers[c];
        if (cover.isMissing()) return found(NOTHING);
        Row row = rows[r];
        row.renew(cover.size, 0);
        for (int i = 0; i < cover.size; i++) row.set(i, cover.dotAt(i));
        return cover.size;
    }

    public int dot(int c, int i, int what) {
        if (!isCover(c) || what < 0 || what > 4) return BAD;
        Cover cover = covers[c];
        if (cover.isMissing()) return found(NOTHING);
        if (!cover.has(i)) return found(BEYOND);
        answer = cover.tellPlace(i, what);
        return 1;
    }

    public int kind(int c) {
        if (!isCover(c)) return BAD;
        return covers[c].isMissing() ? found(NOTHING) : covers[c].kind;
    }

    public int mark(int c, int kind) {
        if (!isCover(c) || kind < GREY || kind > ORDERED) return BAD;
        Cover cover = covers[c];
        if (cover.isMissing()) return found(NOTHING);
        if (!cover.isOfKind(kind)) return found(UNLIKE);
        switch (kind) {
            case GREY: return cover.countLines();
            case PRINTED: return cover.countBright();
            case WORDY: return cover.countChoices();
            default: return cover.countFalls();
        }
    }

    // ---- 2 keys, codes, hiding

    public int place(int c, int key, int i) {
        if (!isCover(c)) return BAD;
        Cover cover = covers[c];
        if (cover.isMissing()) return found(NOTHING);
        if (!cover.has(i)) return found(BEYOND);
        hiding.orderBy(key, cover.size);
        return hiding.placeAt(i);
    }

    public int fault(int t) {
        if (!isText(t)) return BAD;
        if (texts[t].isMissing()) return found(NOTHING);
        return draft.readFrom(texts[t]);
    }

    public int code(int d, int t) {
        if (!isCode(d) || !isText(t)) return BAD;
        if (texts[t].isMissing()) return found(NOTHING);
        if (draft.readFrom(texts[t]) != NONE) return STATE;
        codes[d].take(draft);
        return draft.height;
    }

    public int line(int d, int i) {
        if (!isCode(d)) return BAD;
        Code code = codes[d];
        if (code.isMissing()) return found(NOTHING);
        return code.has(i) ? code.lineAt(i) : found(BEYOND);
    }

    public int room(int c, int d) {
        if (!isCover(c) || !isCode(d)) return BAD;
        if (covers[c].isMissing() || codes[d].isMissing()) return found(NOTHING);
        return codes[d].height * codes[d].countBlocks(covers[c]);
    }

    public int hide(int c, int key, int d, int r) {
        int sum = plan(c, key, d, r);
        if (sum >= 0) hiding.flipAll(covers[c], codes[d]);
        return sum;
    }

    public int price(int c, int key, int d, int r) {
        int sum = plan(c, key, d, r);
        if (sum >= 0) answer = hiding.countFlips();
        return sum;
    }

    public int read(int c, int key, int d, int blocks, int r) {
        if (!isCover(c) || !isCode(d) || !isRow(r) || blocks < 0 || blocks > MOST_PLACES) return BAD;
        Cover cover = covers[c];
        Code code = codes[d];
        if (cover.isMissing() || code.isMissing()) return found(NOTHING);
        int n = blocks * code.height;
        if (blocks > code.countBlocks(cover) || n > MOST_PLACES) return found(BEYOND);
        hiding.orderBy(key, cover.size);
        rows[r].renew(n, 0);
        for (int b = 0; b < blocks; b++) {
            int held = hiding.bitsHeld(cover, code, b);
            for (int i = 0; i < code.height; i++) rows[r].set(b * code.height + i, held >> i & 1);
        }
        return n;
    }

    public int changes(int d) {
        if (!isCode(d)) return BAD;
        if (codes[d].isMissing()) return found(NOTHING);
        hiding.weigh(codes[d]);
        told.become(hiding.sumOfCosts(), hiding.countReached());
        return hiding.mostCost();
    }

    public int reach(int d) {
        if (!isCode(d)) return BAD;
        if (codes[d].isMissing()) return found(NOTHING);
        hiding.weigh(codes[d]);
        return hiding.countReached();
    }

    // ---- 3 parts, marks

    public int parts(int v, int t, int n, int key, int r) {
        if (v < 0 || v >= PART_PRIME || t < 1 || t > MOST_NEEDED) return BAD;
        if (n < t || n > MOST_PARTS || !isRow(r)) return BAD;
        Row row = rows[r];
        row.renew(n, v);
        int l = key;
        for (int power = 1; power < t; power++) {
            l = nextOfKey(l);
            int factor = bitsOfKey(l) % PART_PRIME;
            for (int i = 0; i < n; i++) {
                row.set(i, (row.get(i) + factor * powerOf(i + 1, power)) % PART_PRIME);
            }
        }
        return n;
    }

    public int join(int r) {
        if (!isRow(r)) return BAD;
        Row pairs = rows[r];
        if (pairs.isMissing()) return found(NOTHING);
        if (pairs.size < 2 || pairs.size > 2 * MOST_NEEDED || pairs.size % 2 != 0) return found(SIZE);
        if (!areParts(pairs)) return found(UNLIKE);
        int sum = 0;
        for (int j = 0; j < pairs.size; j += 2) {
            sum = (sum + pairs.get(j + 1) * weightOfPart(pairs, j)) % PART_PRIME;
        }
        return sum;
    }

    public int spread(int c, int key, int a) {
        if (!isCover(c) || a < 1 || a > MOST_STRENGTH) return BAD;
        Cover cover = covers[c];
        if (cover.isMissing()) return found(NOTHING);
        if (cover.kind > PRINTED) return found(UNLIKE);
        signs.signBy(key);
        int kept = 0;
        for (int i = 0; i < cover.size; i++) {
            int wanted = cover.dotAt(i) + a * signs.signAt(i);
            int dot = Math.max(0, Math.min(MOST_DOT, wanted));
            if (dot != wanted) kept++;
            cover.setDot(i, dot);
        }
        return kept;
    }

    public int sum(int c, int key, int s) {
        if (!isCover(c) || s < 0 || s >= MOST_PLACES) return BAD;
        if (covers[c].isMissing()) return found(NOTHING);
        signs.signBy(key);
        answer = signs.sumOver(covers[c], s);
        return 1;
    }

    public int lineUp(int c, int key) {
        if (!isCover(c)) return BAD;
        Cover cover = covers[c];
        if (cover.isMissing()) return found(NOTHING);
        signs.signBy(key);
        int best = 0;
        int most = signs.sumOver(cover, 0);
        for (int s = 1; s < cover.size; s++) {
            int sum = signs.sumOver(cover, s);
            if (sum > most) {
                best = s;
                most = sum;
            }
        }
        answer = most;
        return best;
    }

    public int falseShare(int c, int sum) {
        if (!isCover(c) || sum < -MOST_SUM || sum > MOST_SUM) return BAD;
        Cover cover = covers[c];
        if (cover.isMissing()) return found(NOTHING);
        told.become(signs.countAsGreat(cover, sum), 1L << cover.size);
        return 1;
    }

    public int cut(int c, int i, int m, int to) {
        if (!isCover(c) || !isCover(to) || m < 1) return BAD;
        Cover from = covers[c];
        if (from.isMissing()) return found(NOTHING);
        if (i < 0 || m > from.size || i > from.size - m) return found(BEYOND);
        covers[to].takeSpan(from, i, m);
        return m;
    }

    // ---- 4 gangs, models, orders

    public int makes(int r, int gang, int copy) {
        if (!isRow(r) || gang < 1 || !isCopy(copy)) return BAD;
        Row names = rows[r];
        if (names.isMissing()) return found(NOTHING);
        int wrong = wrongInNames(names);
        if (wrong != 0) return found(wrong);
        // names that there are not are BAD only here: the ROW has to tell first how many there are
        if (gang >= 1 << names.size) return BAD;
        return canMake(names, gang, copy) ? 1 : 0;
    }

    public int guilty(int r, int g, int copy) {
        if (!isRow(r) || g < 1 || g > MOST_GANG || !isCopy(copy)) return BAD;
        Row names = rows[r];
        if (names.isMissing()) return found(NOTHING);
        int wrong = wrongInNames(names);
        if (wrong != 0) return found(wrong);
        int gangs = 0;
        int inAll = (1 << names.size) - 1;
        for (int gang = 1; gang < 1 << names.size; gang++) {
            if (Integer.bitCount(gang) <= g && canMake(names, gang, copy)) {
                gangs++;
                inAll &= gang;
            }
        }
        answer = gangs > 0 ? inAll : 0;
        return gangs;
    }

    public int apart(int r) {
        if (!isRow(r)) return BAD;
        Row names = rows[r];
        if (names.isMissing()) return found(NOTHING);
        int wrong = wrongInNames(names);
        if (wrong != 0) return found(wrong);
        if (names.size < 2) return NONE;
        int least = MOST_SIGNS;
        for (int i = 0; i < names.size; i++) {
            for (int j = i + 1; j < names.size; j++) {
                least = Math.min(least, Integer.bitCount(names.get(i) ^ names.get(j)));
            }
        }
        return least;
    }

    public int howFar(int c, int model) {
        if (!isCover(c) || !isRow(model)) return BAD;
        if (covers[c].isMissing() || rows[model].isMissing()) return found(NOTHING);
        covers[c].countInto(learned);
        int wrong = wrongInModels(learned, rows[model]);
        if (wrong != 0) return found(wrong);
        long whole = 2 * learned.total() * rows[model].total();
        told.become(gapOf(learned, rows[model]), whole);
        return 1;
    }

    public int bestTest(int one, int other) {
        if (!isRow(one) || !isRow(other)) return BAD;
        Row first = rows[one];
        Row second = rows[other];
        if (first.isMissing() || second.isMissing()) return found(NOTHING);
        int wrong = wrongInModels(first, second);
        if (wrong != 0) return found(wrong);
        long whole = 2 * first.total() * second.total();
        told.become(whole - gapOf(first, second), whole);
        answer = greaterShares(first, second);
        return 1;
    }

    public int learn(int c, int r) {
        if (!isCover(c) || !isRow(r)) return BAD;
        if (covers[c].isMissing()) return found(NOTHING);
        covers[c].countInto(rows[r]);
        int there = 0;
        for (int i = 0; i < MODEL_SIZE; i++) {
            if (rows[r].get(i) > 0) there++;
        }
        return there;
    }

    public int pairs(int c) {
        if (!isCover(c)) return BAD;
        Cover cover = covers[c];
        if (cover.isMissing()) return found(NOTHING);
        told.become(0, 1);
        int there = 0;
        for (int i = 0; i < cover.size; i++) {
            if (!cover.isFirstOfPair(i)) continue;
            int even = cover.countDot(cover.dotAt(i) & ~1);
            int odd = cover.countDot(cover.dotAt(i) | 1);
            told.add((even - odd) * (even - odd), even + odd);
            there++;
        }
        return there;
    }

    public int rank(int c) {
        if (!isCover(c)) return BAD;
        Cover cover = covers[c];
        if (cover.isMissing()) return found(NOTHING);
        if (cover.kind != ORDERED) return found(UNLIKE);
        long rank = 0;
        for (int i = 0; i < cover.size; i++) {
            rank = (rank * (cover.size - i) + cover.countLessBehind(i)) % RANK_PRIME;
        }
        return (int) rank;
    }

    public int arrange(int c, int rank) {
        if (!isCover(c) || rank < 0) return BAD;
        Cover cover = covers[c];
        if (cover.isMissing()) return found(NOTHING);
        if (cover.kind != ORDERED) return found(UNLIKE);
        if (cover.size > MOST_ARRANGED) return SPENT;
        if (rank >= countOrders(cover.size)) return found(BEYOND);
        cover.sort();
        int left = rank;
        for (int i = 0; i < cover.size; i++) {
            int orders = Math.max(1, countOrders(cover.size - 1 - i));
            cover.bringForward(i + left / orders, i);
            left %= orders;
        }
        return 1;
    }

    // ---- 5 what is told

    public int asked() {
        return answer;
    }

    public long upper() {
        return told.above;
    }

    public long lower() {
        return told.below;
    }

    public int count(int what) {
        switch (what) {
            case 0: return countThere(rows);
            case 1: return countThere(texts);
            case 2: return countCovers(false);
            case 3: return countCovers(true);
            case 4: return countCodes();
            case 5: return countDots();
            default: return BAD;
        }
    }

    public int finding() {
        return latestFinding;
    }

    public int findings(int f) {
        return f < NOTHING || f > SIZE ? BAD : findingCounts[f];
    }

    public long digest() {
        long h = 17;
        for (int what = 0; what <= 5; what++) h = 31 * h + count(what);
        for (int c = 0; c < covers.length; c++) h = covers[c].digestFrom(h);
        for (int d = 0; d < codes.length; d++) h = codes[d].digestFrom(h);
        for (int r = 0; r < rows.length; r++) h = rows[r].digestFrom(h);
        for (int t = 0; t < texts.length; t++) h = texts[t].digestFrom(h);
        return h;
    }

    // ---- which numbers will do

    private boolean isRow(int r) {
        return r >= 0 && r < rows.length;
    }

    private boolean isText(int t) {
        return t >= 0 && t < texts.length;
    }

    private boolean isCover(int c) {
        return c >= 0 && c < covers.length;
    }

    private boolean isCode(int d) {
        return d >= 0 && d < codes.length;
    }

    private static boolean isCopy(int copy) {
        return copy >= 0 && copy <= ALL_OF_A_NAME;
    }

    private int found(int f) {
        latestFinding = f;
        if (f >= NOTHING && f <= SIZE) findingCounts[f]++;
        return FINDING;
    }

    // ---- covers

    private int drawn(Cover cover, Row dots, int kind, int width) {
        if (dots.isMissing()) return found(NOTHING);
        if (dots.size < 1) return found(SIZE);
        if (!dots.isWithin(0, MOST_DOT)) return found(UNLIKE);
        if (kind == ORDERED && dots.hasTwoAlike()) return found(UNLIKE);
        cover.renew(dots, kind, width);
        return dots.size;
    }

    private static boolean areChoices(Row dots, Row counts) {
        if (!counts.isWithin(1, MOST_CHOICES)) return false;
        for (int i = 0; i < dots.size; i++) {
            if (dots.get(i) < 0 || dots.get(i) >= counts.get(i)) return false;
        }
        return true;
    }

    private static int countThere(Row[] all) {
        int n = 0;
        for (Row row : all) {
            if (!row.isMissing()) n++;
        }
        return n;
    }

    private int countCovers(boolean greyAlone) {
        int n = 0;
        for (Cover cover : covers) {
            if (!cover.isMissing() && (!greyAlone || cover.isOfKind(GREY))) n++;
        }
        return n;
    }

    private int countCodes() {
        int n = 0;
        for (Code code : codes) {
            if (!code.isMissing()) n++;
        }
        return n;
    }

    private int countDots() {
        int n = 0;
        for (Cover cover : covers) n += cover.size;
        return n;
    }

    // ---- keys and hiding

    private static int nextOfKey(int l) {
        return l * 1103515245 + 12345;
    }

    private static int bitsOfKey(int l) {
        return l >>> 16 & 0x7fff;
    }

    /** Finds what HIDING takes and flips nothing: the sum of PRICES, NONE, or why it is refused. */
    private int plan(int c, int key, int d, int r) {
        if (!isCover(c) || !isCode(d) || !isRow(r)) return BAD;
        Cover cover = covers[c];
        Code code = codes[d];
        Row bits = rows[r];
        if (cover.isMissing() || code.isMissing() || bits.isMissing()) return found(NOTHING);
        if (bits.size % code.height != 0) return found(SIZE);
        if (!bits.isWithin(0, 1)) return found(UNLIKE);
        if (bits.size > code.height * code.countBlocks(cover)) return found(BEYOND);
        hiding.orderBy(key, cover.size);
        return hiding.planAll(cover, code, bits);
    }

    // ---- parts

    private static int powerOf(int base, int power) {
        int result = 1;
        for (int p = 0; p < power; p++) result = result * base % PART_PRIME;
        return result;
    }

    private static boolean areParts(Row pairs) {
        for (int j = 0; j < pairs.size; j += 2) {
            int i = pairs.get(j);
            int part = pairs.get(j + 1);
            if (i < 1 || i > MOST_PARTS || part < 0 || part >= PART_PRIME) return false;
            for (int before = 0; before < j; before += 2) {
                if (pairs.get(before) == i) return false;
            }
        }
        return true;
    }

    /** How much the part of the pair at j weighs in the curve through all pairs, at 0. */
    private static int weightOfPart(Row pairs, int j) {
        int above = 1;
        int below = 1;
        for (int m = 0; m < pairs.size; m += 2) {
            if (m == j) continue;
            above = above * pairs.get(m) % PART_PRIME;
            below = below * (pairs.get(m) - pairs.get(j) + PART_PRIME) % PART_PRIME;
        }
        // modulo a prime p the power p - 2 is what division by a number multiplies with
        return above * powerOf(below, PART_PRIME - 2) % PART_PRIME;
    }

    // ---- gangs and models

    /** The FINDING that a ROW of NAMES is refused with; 0 if it will do. */
    private static int wrongInNames(Row names) {
        if (names.size < 1 || names.size > MOST_NAMES) return SIZE;
        return names.isWithin(0, ALL_OF_A_NAME) ? 0 : UNLIKE;
    }

    private static boolean canMake(Row names, int gang, int copy) {
        int someHave = 0;
        int allHave = ALL_OF_A_NAME;
        for (int i = 0; i < names.size; i++) {
            if ((gang >> i & 1) == 0) continue;
            someHave |= names.get(i);
            allHave &= names.get(i);
        }
        return (copy & ~someHave) == 0 && (allHave & ~copy) == 0;
    }

    /** The FINDING that two MODELS are refused with; 0 if both will do. */
    private static int wrongInModels(Row one, Row other) {
        if (one.size != MODEL_SIZE || other.size != MODEL_SIZE) return SIZE;
        if (!one.isWithin(0, MOST_COUNT) || !other.isWithin(0, MOST_COUNT)) return UNLIKE;
        return one.total() == 0 || other.total() == 0 ? NOUGHT : 0;
    }

    /** How much more of DOT i there is by the first MODEL, as a share times both totals. */
    private static long leadOf(Row one, Row other, int i) {
        return one.get(i) * other.total() - other.get(i) * one.total();
    }

    private static long gapOf(Row one, Row other) {
        long gap = 0;
        for (int i = 0; i < MODEL_SIZE; i++) gap += Math.abs(leadOf(one, other, i));
        return gap;
    }

    private static int greaterShares(Row one, Row other) {
        int bits = 0;
        for (int i = 0; i < MODEL_SIZE; i++) {
            if (leadOf(one, other, i) > 0) bits |= 1 << i;
        }
        return bits;
    }

    /** In how many orders n DOTS can stand, for the few that arrange() takes. */
    private static int countOrders(int n) {
        int orders = 1;
        for (int i = 2; i <= n && i <= MOST_ARRANGED; i++) orders *= i;
        return orders;
    }

    /** A ROW or a TEXT. Both have cells for the longest TEXT, so that one class does for both. */
    private static final class Row {
        private final int[] cells = new int[MOST_BYTES];
        private int size = -1;

        boolean isMissing() {
            return size < 0;
        }

        boolean has(int i) {
            return i >= 0 && i < size;
        }

        boolean hasSpan(int i, int n) {
            return i >= 0 && n >= 0 && n <= size && i <= size - n;
        }

        int get(int i) {
            return has(i) ? cells[i] : 0;
        }

        void set(int i, int v) {
            if (has(i)) cells[i] = v;
        }

        void renew(int n, int v) {
            size = Math.max(0, Math.min(n, cells.length));
            Arrays.fill(cells, 0, size, v);
        }

        void lose() {
            size = -1;
        }

        long total() {
            long sum = 0;
            for (int i = 0; i < size; i++) sum += cells[i];
            return sum;
        }

        boolean isWithin(int least, int most) {
            for (int i = 0; i < size; i++) {
                if (cells[i] < least || cells[i] > most) return false;
            }
            return true;
        }

        boolean hasTwoAlike() {
            for (int i = 0; i < size; i++) {
                for (int j = 0; j < i; j++) {
                    if (cells[i] == cells[j]) return true;
                }
            }
            return false;
        }

        long digestFrom(long h) {
            long result = 31 * h + size;
            for (int i = 0; i < size; i++) result = 31 * result + cells[i];
            return result;
        }
    }

    /** A COVER of any KIND; with no DOTS it is missing. */
    private static final class Cover {
        private final int[] dots = new int[MOST_PLACES];
        /** Above 0 in WORDY ones alone. */
        private final int[] choices = new int[MOST_PLACES];
        private int kind = COVER;
        private int size = 0;
        /** DOTS of a line; above 0 in GREY and PRINTED ones alone. */
        private int width = 0;
        private int wetBits = 0;

        boolean isMissing() {
            return size < 1;
        }

        boolean has(int i) {
            return i >= 0 && i < size;
        }

        boolean isOfKind(int wanted) {
            return kind == wanted || wanted == GREY && kind == PRINTED;
        }

        void lose() {
            size = 0;
        }

        void renew(Row row, int newKind, int newWidth) {
            System.arraycopy(row.cells, 0, dots, 0, dots.length);
            become(newKind, newWidth, row.size);
        }

        void takeChoices(Row counts) {
            System.arraycopy(counts.cells, 0, choices, 0, choices.length);
        }

        void takeSpan(Cover from, int i, int m) {
            if (i < 0 || m < 1 || m > from.size || i > from.size - m) return;
            System.arraycopy(from.dots, i, dots, 0, m);
            become(COVER, 0, m);
        }

        private void become(int newKind, int newWidth, int newSize) {
            kind = newKind;
            width = newWidth;
            size = Math.max(0, Math.min(newSize, dots.length));
            wetBits = 0;
            Arrays.fill(choices, 0);
        }

        int dotAt(int i) {
            return has(i) ? dots[i] : 0;
        }

        void setDot(int i, int dot) {
            if (has(i)) dots[i] = dot;
        }

        int choicesAt(int i) {
            return has(i) ? choices[i] : 0;
        }

        int bitAt(int i) {
            return kind == PRINTED ? dotAt(i) >> 1 & 1 : dotAt(i) & 1;
        }

        int flippedAt(int i) {
            int dot = dotAt(i);
            if (kind == PRINTED) return dot ^ 2;
            if (kind != WORDY) return dot ^ 1;
            if (choicesAt(i) < 2) return dot;
            return dot + 1 < choicesAt(i) ? dot + 1 : dot - 1;
        }

        boolean isWet(int i) {
            if (kind == ORDERED || kind == WORDY && choicesAt(i) < 2) return true;
            return i >= 0 && i <= LAST_WET_BIT && (wetBits >> i & 1) != 0;
        }

        int countWet() {
            int n = 0;
            for (int i = 0; i < size; i++) {
                if (isWet(i)) n++;
            }
            return n;
        }

        int priceAt(int i) {
            int many = choicesAt(i);
            if (many > 0) return 12 / many;
            if (width < 1) return 10;
            int price = 60 / Math.max(1, 1 + roughnessAt(i)) + 1;
            return kind == PRINTED ? 2 * price : price;
        }

        private int roughnessAt(int i) {
            if (width < 1) return 0;
            int sum = 0;
            if (i % width > 0) sum += gapBetween(i, i - 1);
            if (i % width < width - 1) sum += gapBetween(i, i + 1);
            return sum + gapBetween(i, i - width) + gapBetween(i, i + width);
        }

        private int gapBetween(int i, int j) {
            return has(i) && has(j) ? Math.abs(dots[i] - dots[j]) : 0;
        }

        int tellPlace(int i, int what) {
            switch (what) {
                case 0: return dotAt(i);
                case 1: return bitAt(i);
                case 2: return flippedAt(i);
                case 3: return priceAt(i);
                default: return isWet(i) ? 1 : 0;
            }
        }

        int countLines() {
            return width < 1 ? 0 : (size + width - 1) / width;
        }

        int countBright() {
            int n = 0;
            for (int i = 0; i < size; i++) {
                if (dots[i] > 127) n++;
            }
            return n;
        }

        int countChoices() {
            int n = 0;
            for (int i = 0; i < size; i++) n += choices[i];
            return n;
        }

        int countFalls() {
            int n = 0;
            for (int i = 1; i < size; i++) {
                if (dots[i] < dots[i - 1]) n++;
            }
            return n;
        }

        int totalOfDots() {
            int sum = 0;
            for (int i = 0; i < size; i++) sum += dots[i];
            return sum;
        }

        void countInto(Row model) {
            model.renew(MODEL_SIZE, 0);
            for (int i = 0; i < size; i++) {
                int rest = dots[i] & MODEL_SIZE - 1;
                model.set(rest, model.get(rest) + 1);
            }
        }

        boolean isFirstOfPair(int i) {
            for (int j = 0; j < i; j++) {
                if (dotAt(j) >> 1 == dotAt(i) >> 1) return false;
            }
            return true;
        }

        int countDot(int dot) {
            int n = 0;
            for (int i = 0; i < size; i++) {
                if (dots[i] == dot) n++;
            }
            return n;
        }

        int countLessBehind(int i) {
            int n = 0;
            for (int j = i + 1; j < size; j++) {
                if (dotAt(j) < dotAt(i)) n++;
            }
            return n;
        }

        void sort() {
            for (int i = 1; i < size; i++) {
                int at = i;
                for (int j = 0; j < i && at == i; j++) {
                    if (dots[j] > dots[i]) at = j;
                }
                bringForward(i, at);
            }
        }

        /** DOT i comes to place to, ahead of it, and those between go one place on. */
        void bringForward(int i, int to) {
            if (!has(i) || !has(to) || to > i) return;
            int dot = dots[i];
            System.arraycopy(dots, to, dots, to + 1, i - to);
            dots[to] = dot;
        }

        long digestFrom(long h) {
            if (isMissing()) return 31 * h - 1;
            long result = 31 * (31 * h + kind) + size;
            for (int i = 0; i < size; i++) {
                for (int what = 0; what <= 4; what++) result = 31 * result + tellPlace(i, what);
            }
            return result;
        }
    }

    /** A CODE; with no lines it is missing. */
    private static final class Code {
        private final int[] lines = new int[MOST_LINES];
        private int height = 0;
        private int width = 0;

        boolean isMissing() {
            return height < 1 || width < 1;
        }

        boolean has(int i) {
            return i >= 0 && i < height && i < lines.length;
        }

        int lineAt(int i) {
            return has(i) ? lines[i] : 0;
        }

        int countBlocks(Cover cover) {
            return width < 1 ? 0 : cover.size / width;
        }

        /** Which lines have a 1 at sign j, as bits: what a change at this place turns. */
        int columnAt(int j) {
            int column = 0;
            for (int i = 0; i < height; i++) column |= (lineAt(i) >> j & 1) << i;
            return column;
        }

        void take(Code other) {
            height = other.height;
            width = other.width;
            System.arraycopy(other.lines, 0, lines, 0, lines.length);
        }

        /** Reads a TEXT up to its FAULT: where that is, or NONE. Behind a FAULT this is no CODE. */
        int readFrom(Row text) {
            height = 0;
            width = 0;
            int at = behindBlanks(text, 0);
            for (int l = 0; l < MOST_LINES; l++) {
                int from = l == 0 ? at : at + 1;
                at = behindLine(text, from);
                if (!takeLine(text, from, at)) return at;
                if (text.get(at) != SLASH) break;
            }
            at = behindBlanks(text, at);
            return at == text.size ? NONE : at;
        }

        private static int behindBlanks(Row text, int from) {
            int at = from;
            while (at < text.size && text.get(at) == BLANK) at++;
            return at;
        }

        /** Where the signs from a place on end; those that are too many are left out. */
        private int behindLine(Row text, int from) {
            int most = height == 0 ? MOST_SIGNS : width;
            int at = from;
            while (at < text.size && at < from + most && isSign(text.get(at))) at++;
            return at;
        }

        private static boolean isSign(int sign) {
            return sign == ZERO || sign == ONE;
        }

        private boolean takeLine(Row text, int from, int behind) {
            int signs = behind - from;
            if (height >= lines.length || signs < 1 || height > 0 && signs < width) return false;
            int bits = 0;
            for (int j = 0; j < signs; j++) {
                if (text.get(from + j) == ONE) bits |= 1 << j;
            }
            lines[height] = bits;
            height++;
            width = signs;
            return true;
        }

        long digestFrom(long h) {
            if (isMissing()) return 31 * h - 1;
            long result = 31 * (31 * h + height) + width;
            for (int i = 0; i < height; i++) result = 31 * result + lineAt(i);
            return result;
        }
    }

    /**
     * A KEY's order and, for each row of bits that a BLOCK's changes may turn, the cheapest set of
     * places that turns them. Sets grow place by place: trying all of them would take 64 times as long.
     */
    private static final class Hiding {
        private static final int TURNS = 1 << MOST_LINES;
        private static final int UNREACHED = 1000000;

        private final int[] order = new int[MOST_PLACES];
        private final int[] costs = new int[TURNS];
        private final int[] sets = new int[TURNS];
        private final int[] chosen = new int[MOST_PLACES];
        private int blocks = 0;

        void orderBy(int key, int n) {
            int all = Math.min(n, order.length);
            for (int i = 0; i < all; i++) order[i] = i;
            int l = key;
            for (int i = all - 1; i >= 1; i--) {
                l = nextOfKey(l);
                int j = bitsOfKey(l) % (i + 1);
                int place = order[i];
                order[i] = order[j];
                order[j] = place;
            }
        }

        int placeAt(int i) {
            return i >= 0 && i < order.length ? order[i] : 0;
        }

        int bitsHeld(Cover cover, Code code, int block) {
            int held = 0;
            for (int j = 0; j < code.width; j++) {
                if (cover.bitAt(placeAt(block * code.width + j)) == 1) held ^= code.columnAt(j);
            }
            return held;
        }

        /** Chooses a set for each BLOCK: the sum of PRICES, or NONE. */
        int planAll(Cover cover, Code code, Row bits) {
            blocks = code.height < 1 ? 0 : Math.min(bits.size / code.height, chosen.length);
            int sum = 0;
            for (int b = 0; b < blocks; b++) {
                int turn = bitsHeld(cover, code, b) ^ bitsWanted(code, bits, b);
                startSets();
                for (int j = 0; j < code.width; j++) {
                    int place = placeAt(b * code.width + j);
                    if (!cover.isWet(place)) growSets(j, code.columnAt(j), cover.priceAt(place));
                }
                if (turn >= TURNS || costs[turn] == UNREACHED) return NONE;
                chosen[b] = sets[turn];
                sum += costs[turn];
            }
            return sum;
        }

        private static int bitsWanted(Code code, Row bits, int block) {
            int wanted = 0;
            for (int i = 0; i < code.height; i++) wanted |= bits.get(block * code.height + i) << i;
            return wanted;
        }

        void flipAll(Cover cover, Code code) {
            for (int b = 0; b < blocks; b++) {
                for (int j = 0; j < code.width; j++) {
                    int place = placeAt(b * code.width + j);
                    if ((chosen[b] >> j & 1) != 0) cover.setDot(place, cover.flippedAt(place));
                }
            }
        }

        int countFlips() {
            int n = 0;
            for (int b = 0; b < blocks; b++) n += Integer.bitCount(chosen[b]);
            return n;
        }

        /** Makes the costs those of CHANGES: nothing is WET, each place costs 1. */
        void weigh(Code code) {
            startSets();
            for (int j = 0; j < code.width; j++) growSets(j, code.columnAt(j), 1);
        }

        private void startSets() {
            Arrays.fill(costs, UNREACHED);
            costs[0] = 0;
            sets[0] = 0;
        }

        private void growSets(int place, int column, int price) {
            for (int turn = 0; turn < TURNS; turn++) {
                int other = turn ^ column;
                // each two that this place joins are looked at once, both as they were without it
                if (other <= turn || other >= TURNS) continue;
                int cost = costs[turn];
                int set = sets[turn];
                joinPlace(turn, costs[other], sets[other], place, price);
                joinPlace(other, cost, set, place, price);
            }
        }

        private void joinPlace(int turn, int cost, int set, int place, int price) {
            // at the same cost the set without this place stays: it is the lesser one as bits
            if (cost == UNREACHED || cost + price >= costs[turn]) return;
            costs[turn] = cost + price;
            sets[turn] = set | 1 << place;
        }

        int countReached() {
            int n = 0;
            for (int cost : costs) {
                if (cost != UNREACHED) n++;
            }
            return n;
        }

        int sumOfCosts() {
            int sum = 0;
            for (int cost : costs) {
                if (cost != UNREACHED) sum += cost;
            }
            return sum;
        }

        int mostCost() {
            int most = 0;
            for (int cost : costs) {
                if (cost != UNREACHED) most = Math.max(most, cost);
            }
            return most;
        }
    }

    /** A MARK's signs, and the count of all rows of signs by their SUMS. */
    private static final class Mark {
        private final int[] signs = new int[MOST_PLACES];
        /** Made when it is first wanted: few objects count signs, and it is long. */
        private long[] ways = null;

        void signBy(int key) {
            int l = key;
            for (int i = 0; i < signs.length; i++) {
                l = nextOfKey(l);
                signs[i] = bitsOfKey(l) % 2 == 1 ? 1 : -1;
            }
        }

        int signAt(int i) {
            return i >= 0 && i < signs.length ? signs[i] : 0;
        }

        int sumOver(Cover cover, int shift) {
            if (cover.size < 1) return 0;
            int sum = 0;
            for (int i = 0; i < cover.size; i++) sum += cover.dotAt(i) * signAt((i + shift) % cover.size);
            return sum;
        }

        /** How many rows of signs give a SUM as great or greater. */
        long countAsGreat(Cover cover, int sum) {
            long all = 1L << cover.size;
            int total = cover.totalOfDots();
            // a SUM is twice what the DOTS with + come to, less the total
            int least = Math.floorDiv(sum + total + 1, 2);
            if (least <= 0) return all;
            // turning all signs shows the same counts from the other end: the shorter end is counted
            return least - 1 < total - least
                    ? all - countUpTo(cover, least - 1)
                    : countUpTo(cover, total - least);
        }

        /** How many sets of DOTS come to a limit or less. */
        private long countUpTo(Cover cover, int limit) {
            if (ways == null) ways = new long[MOST_SUM / 2 + 1];
            if (limit < 0 || limit >= ways.length) return 0;
            Arrays.fill(ways, 0, limit + 1, 0L);
            ways[0] = 1;
            int most = 0;
            for (int i = 0; i < cover.size; i++) {
                int dot = cover.dotAt(i);
                most = Math.min(limit, most + dot);
                for (int s = most; s >= dot && dot >= 0; s--) ways[s] += ways[s - dot];
            }
            long sets = 0;
            for (int s = 0; s <= most; s++) sets += ways[s];
            return sets;
        }
    }

    /** The fraction that was told last, in lowest terms. */
    private static final class Fraction {
        private long above = 0;
        private long below = 1;

        void become(long newAbove, long newBelow) {
            long divisor = commonDivisor(newAbove, newBelow);
            if (divisor < 1) return;
            above = newAbove / divisor;
            below = newBelow / divisor;
        }

        void add(long otherAbove, long otherBelow) {
            become(above * otherBelow + otherAbove * below, below * otherBelow);
        }

        private static long commonDivisor(long one, long other) {
            long a = one;
            long b = other;
            // the rests shrink so fast that a hundred steps do for any two longs
            for (int step = 0; step < 100 && b != 0; step++) {
                long rest = a % b;
                a = b;
                b = rest;
            }
            return a;
        }
    }
}
