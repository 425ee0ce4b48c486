/** Promises 45 to 51, and the constants. */
public final class TellingTest {
    private static final Due due = new Due();

    public static void main(String[] args) {
        constants();
        asked();
        fractions();
        count();
        findings();
        digestOfNothing();
        digest();
        due.end();
    }

    private static void constants() {
        due.is("BAD", HiddenWords.BAD, -1);
        due.is("FULL", HiddenWords.FULL, -2);
        due.is("FINDING", HiddenWords.FINDING, -3);
        due.is("STATE", HiddenWords.STATE, -4);
        due.is("SPENT", HiddenWords.SPENT, -6);
        due.is("NONE", HiddenWords.NONE, -9);
    }

    /** An object with something of each sort; asked() is 123 then. */
    private static HiddenWords full() {
        HiddenWords x = new HiddenWords();
        Due.row(x, 0, 3, 1, 2, 9, 8);
        x.cover(0, 4, 0);
        x.cover(1, 0, 0);
        x.grey(2, 0, 2, false);
        Due.row(x, 1, 1, 0);
        Due.row(x, 2, 0, 1);
        Due.row(x, 3, 1, 2);
        x.wordy(3, 2, 3);
        Due.row(x, 3, 1, 0, 0, 0, 0, 0, 0, 7);
        Due.text(x, 0, "00");
        x.code(3, 0);
        Due.text(x, 0, "11/01");
        x.code(0, 0);
        x.lay(1, 0, 123);
        x.lay(1, 0, 1);
        return x;
    }

    private static void asked() {
        HiddenWords x = full();
        due.is("lay", x.asked(), 123);
        x.at(0, 3);
        due.is("at", x.asked(), 9);
        x.mean(0);
        due.is("mean", x.asked(), 4);
        x.dot(1, 4, 0);
        due.is("dot", x.asked(), 8);
        x.price(1, 0, 0, 1);
        int told = x.asked();
        due.holds("price", told >= 0 && told <= 2);
        x.sum(1, 6, 0);
        int sum = x.asked();
        due.holds("sum", sum != 8 && Math.abs(sum) <= 23);
        x.lineUp(1, 6);
        due.holds("lineUp", x.asked() >= sum);
        x.guilty(0, 1, 9);
        due.is("guilty", x.asked(), 8);
        x.bestTest(3, 3);
        due.is("bestTest", x.asked(), 0);
        x = full();
        stays("row", x, x.row(5, 2));
        stays("tear", x, x.tear(5));
        stays("copy", x, x.copy(0, 0, 0, 1, 2));
        stays("text", x, x.text(1, 2));
        stays("put", x, x.put(1, 1, 2));
        stays("cover", x, x.cover(5, 0, 0));
        stays("grey", x, x.grey(5, 0, 1, true));
        stays("wordy", x, x.wordy(5, 0, 0));
        stays("wet", x, x.wet(5, 1));
        stays("dots", x, x.dots(5, 5));
        stays("kind", x, x.kind(5));
        stays("mark", x, x.mark(2, 1));
        stays("drop", x, x.drop(5));
        stays("place", x, x.place(1, 0, 1));
        stays("fault", x, x.fault(0));
        stays("code", x, x.code(1, 0));
        stays("line", x, x.line(0, 1));
        stays("room", x, x.room(1, 0));
        stays("hide", x, x.hide(1, 0, 0, 1));
        stays("read", x, x.read(1, 0, 0, 2, 5));
        stays("changes", x, x.changes(0));
        stays("reach", x, x.reach(0));
        stays("parts", x, x.parts(4, 2, 3, 1, 5));
        stays("join", x, x.join(1));
        stays("spread", x, x.spread(1, 3, 4));
        stays("falseShare", x, x.falseShare(1, 4));
        stays("cut", x, x.cut(1, 3, 1, 5));
        stays("makes", x, x.makes(0, 1, 2));
        stays("apart", x, x.apart(0));
        stays("howFar", x, x.howFar(1, 3));
        stays("learn", x, x.learn(1, 5));
        stays("pairs", x, x.pairs(1));
        stays("rank", x, x.rank(0));
        stays("arrange", x, x.arrange(0, 3));
        stays("upper", x, x.upper());
        stays("lower", x, x.lower());
        stays("count", x, x.count(5));
        stays("finding", x, x.finding());
        stays("findings", x, x.findings(1));
        stays("digest", x, x.digest());
        stays("price that can't be", x, x.price(1, 0, 3, 1));
        stays("price, refused", x, x.price(6, 0, 0, 1));
        stays("at, refused", x, x.at(0, 5));
        stays("lay, refused", x, x.lay(0, 5, 1));
        stays("mean, refused", x, x.mean(4));
        stays("dot, refused", x, x.dot(0, 5, 1));
        stays("sum, refused", x, x.sum(4, 0, 0));
        stays("lineUp, refused", x, x.lineUp(4, 0));
        stays("guilty, refused", x, x.guilty(4, 1, 0));
        stays("bestTest, refused", x, x.bestTest(3, 0));
    }

    private static void stays(String what, HiddenWords x, long answer) {
        due.is("asked() behind " + what + " that answered " + answer, x.asked(), 123);
    }

    private static void fractions() {
        HiddenWords x = full();
        due.is("upper at first", x.upper(), 0);
        due.is("lower at first", x.lower(), 1);
        x.changes(0);
        due.is("changes, upper", x.upper(), 1);
        due.is("changes, lower", x.lower(), 1);
        x.falseShare(1, 23);
        due.is("falseShare, upper", x.upper(), 1);
        due.is("falseShare, lower", x.lower(), 32);
        x.pairs(1);
        due.is("pairs, upper", x.upper(), 1);
        due.is("pairs, lower", x.lower(), 1);
        x.bestTest(3, 3);
        due.is("bestTest, upper", x.upper(), 1);
        x.howFar(1, 3);
        due.is("howFar, upper", x.upper(), 7);
        due.is("howFar, lower", x.lower(), 8);
        x.reach(0);
        x.mean(0);
        x.at(0, 0);
        x.changes(2);
        x.falseShare(5, 0);
        x.pairs(5);
        x.bestTest(0, 3);
        x.howFar(1, 0);
        due.is("others tell no fraction, upper", x.upper(), 7);
        due.is("others tell no fraction, lower", x.lower(), 8);
        x.falseShare(1, 24);
        due.is("nought, upper", x.upper(), 0);
        due.is("nought, lower", x.lower(), 1);
    }

    private static void count() {
        HiddenWords x = full();
        int[] want = {4, 1, 4, 1, 2, 17};
        for (int what = 0; what <= 5; what++) due.is("count(" + what + ")", x.count(what), want[what]);
        x.grey(2, 0, 2, true);
        due.is("PRINTED, too", x.count(3), 1);
        x.grey(1, 0, 2, false);
        due.is("GREY and PRINTED", x.count(3), 2);
        x.drop(2);
        due.is("dropped GREY", x.count(3), 1);
        due.is("dropped", x.count(2), 3);
        due.is("dropped DOTS", x.count(5), 12);
        x.cover(1, 0, 0);
        due.is("no GREY ones", x.count(3), 0);
        x.tear(0);
        due.is("torn", x.count(0), 3);
        due.is("count(-1)", x.count(-1), HiddenWords.BAD);
        due.is("count(6)", x.count(6), HiddenWords.BAD);
        due.is("count(MIN)", x.count(Integer.MIN_VALUE), HiddenWords.BAD);
    }

    private static void findings() {
        HiddenWords x = full();
        due.is("finding at first", x.finding(), 0);
        int[][] runs = {{1, 2}, {2, 3}, {3, 4}, {4, 1}, {5, 2}};
        for (int[] run : runs) {
            for (int i = 0; i < run[1]; i++) refuse(x, run[0]);
            due.is("finding()", x.finding(), run[0]);
        }
        for (int[] run : runs) due.is("findings(" + run[0] + ")", x.findings(run[0]), run[1]);
        x.row(6, 0);
        due.is("BAD leaves the finding", x.finding(), 5);
        x.text(1, 0);
        due.is("STATE", x.code(0, 1), HiddenWords.STATE);
        due.is("STATE leaves the finding", x.finding(), 5);
        due.is("NONE", x.hide(1, 0, 3, 1), HiddenWords.NONE);
        due.is("NONE leaves the finding", x.finding(), 5);
        x.at(0, 0);
        due.is("what is not refused leaves the finding", x.finding(), 5);
        for (int[] run : runs) due.is("findings(" + run[0] + ")", x.findings(run[0]), run[1]);
        due.is("findings(0)", x.findings(0), HiddenWords.BAD);
        due.is("findings(6)", x.findings(6), HiddenWords.BAD);
        due.is("findings(-1)", x.findings(-1), HiddenWords.BAD);
        due.is("findings(MAX)", x.findings(Integer.MAX_VALUE), HiddenWords.BAD);
    }

    private static void refuse(HiddenWords x, int finding) {
        int got = 0;
        switch (finding) {
            case 1: got = x.tear(5); break;
            case 2: got = x.at(0, 5); break;
            case 3: got = x.rank(1); break;
            case 4: x.row(5, 0); got = x.mean(5); x.tear(5); break;
            default: got = x.row(0, -1);
        }
        due.is("refused by " + finding, got, HiddenWords.FINDING);
    }

    private static void digestOfNothing() {
        long h = 17;
        for (int i = 0; i < 6; i++) h = 31 * h;
        for (int i = 0; i < 20; i++) h = 31 * h - 1;
        due.is("digest of nothing", new HiddenWords().digest(), h);
    }

    private static void digest() {
        HiddenWords x = new HiddenWords();
        x.text(3, 2);
        x.put(3, 0, 200);
        Due.row(x, 5, 7, -3);
        Due.text(x, 1, "11/01");
        x.code(2, 1);
        Due.row(x, 0, 4, 9);
        x.grey(1, 0, 1, true);
        x.wet(1, 2);
        Due.row(x, 2, 0);
        Due.row(x, 4, 1);
        x.wordy(5, 2, 4);
        x.row(3, 0);
        long[] all = {
            5, 2, 2, 1, 1, 3,
            -1, 2, 2, 4, 0, 6, 22, 0, 9, 0, 11, 22, 1, -1, -1, -1, 3, 1, 0, 0, 0, 12, 1,
            -1, -1, 2, 2, 3, 2, -1,
            2, 4, 9, -1, 1, 0, 0, 1, 1, 2, 7, -3,
            -1, 5, 49, 49, 47, 48, 49, -1, 2, -56, 32};
        long h = 17;
        for (long v : all) h = 31 * h + v;
        due.is("digest", x.digest(), h);
        due.is("digest again", x.digest(), h);
        x.put(3, 0, 201);
        due.holds("another TEXT", x.digest() != h);
        x.put(3, 0, 200);
        x.tear(3);
        due.holds("a missing ROW", x.digest() != h);
        x.row(3, 0);
        due.is("digest as it was", x.digest(), h);
        x.wet(1, 0);
        due.holds("not WET", x.digest() != h);
    }
}
