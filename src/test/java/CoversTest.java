/** Promises 10 to 18. */
public final class CoversTest {
    private static final int MAX = Integer.MAX_VALUE;
    private static final Due due = new Due();

    public static void main(String[] args) {
        cover();
        grey();
        wordy();
        wet();
        drop();
        dots();
        dot();
        prices();
        kind();
        mark();
        due.end();
    }

    private static void places(String what, HiddenWords x, int c, int w, int... want) {
        for (int i = 0; i < want.length; i++) {
            due.is(what + ", dot(" + c + ", " + i + ", " + w + ")", Due.told(x, x.dot(c, i, w)), want[i]);
        }
    }

    private static void cover() {
        HiddenWords x = new HiddenWords();
        Due.row(x, 0, 0, 255, 0);
        due.is("cover", x.cover(0, 0, 0), 3);
        places("cover", x, 0, 0, 0, 255, 0);
        due.is("wet", x.wet(0, 7), 3);
        due.is("cover anew", x.cover(0, 0, 0), 3);
        places("anew, not WET", x, 0, 4, 0, 0, 0);
        x.lay(0, 0, 9);
        places("a cover has its own DOTS", x, 0, 0, 0, 255, 0);
        due.finds("two alike are there no more", x, 0, x.cover(1, 4, 1), 1);
        due.is("cover of KIND 4", x.cover(1, 4, 0), 3);
        due.is("kind", x.kind(1), 4);
        for (int kind : new int[] {-1, 1, 2, 3, 5}) due.is("cover of KIND " + kind, x.cover(0, kind, 0), HiddenWords.BAD);
        due.is("cover(6, ..)", x.cover(6, 0, 0), HiddenWords.BAD);
        due.is("cover(-1, ..)", x.cover(-1, 0, 0), HiddenWords.BAD);
        due.is("cover of ROW 6", x.cover(0, 0, 6), HiddenWords.BAD);
        due.is("cover of ROW -1", x.cover(0, 0, -1), HiddenWords.BAD);
        x.row(2, 0);
        due.finds("no DOTS", x, 0, x.cover(0, 0, 2), 5);
        Due.row(x, 2, 1, 256);
        due.finds("no DOT", x, 0, x.cover(0, 0, 2), 3);
        Due.row(x, 2, -1);
        due.finds("no DOT", x, 1, x.cover(0, 4, 2), 3);
        Due.row(x, 2, 4, 5, 4);
        due.finds("two alike", x, 2, x.cover(1, 4, 2), 3);
        due.is("refused ones change nothing", x.kind(0), 0);
        places("refused ones change nothing", x, 0, 0, 0, 255, 0);
        places("refused ones change nothing", x, 1, 0, 9, 255, 0);
        x.row(2, 40);
        due.is("the longest", x.cover(5, 0, 2), 40);
    }

    private static void grey() {
        HiddenWords x = new HiddenWords();
        Due.row(x, 0, 5, 6, 7, 8);
        due.is("grey", x.grey(0, 0, 1, false), 4);
        due.is("grey", x.grey(1, 0, 40, true), 4);
        due.is("kind", x.kind(0), 1);
        due.is("kind", x.kind(1), 2);
        x.wet(0, 15);
        due.is("grey anew", x.grey(0, 0, 3, false), 4);
        places("anew, not WET", x, 0, 4, 0, 0, 0, 0);
        due.is("lines of 0", x.grey(0, 0, 0, false), HiddenWords.BAD);
        due.is("lines of 41", x.grey(0, 0, 41, false), HiddenWords.BAD);
        due.is("grey(6, ..)", x.grey(6, 0, 1, false), HiddenWords.BAD);
        due.is("grey(-1, ..)", x.grey(-1, 0, 1, false), HiddenWords.BAD);
        due.is("grey of ROW 6", x.grey(0, 6, 1, false), HiddenWords.BAD);
        due.is("grey of ROW -1", x.grey(0, -1, 1, false), HiddenWords.BAD);
        due.finds("none there", x, 0, x.grey(0, 1, 1, true), 1);
        x.row(1, 0);
        due.finds("no DOTS", x, 0, x.grey(0, 1, 1, true), 5);
        Due.row(x, 1, 256);
        due.finds("no DOT", x, 0, x.grey(0, 1, 1, true), 3);
        Due.row(x, 1, 7, 7);
        due.is("alike ones are fine", x.grey(0, 1, 1, true), 2);
    }

    private static void wordy() {
        HiddenWords x = new HiddenWords();
        Due.row(x, 0, 0, 8, 2);
        Due.row(x, 1, 1, 9, 4);
        due.is("wordy", x.wordy(2, 0, 1), 3);
        due.is("kind", x.kind(2), 3);
        places("wordy", x, 2, 0, 0, 8, 2);
        places("wordy WET", x, 2, 4, 1, 0, 0);
        due.is("wordy(6, ..)", x.wordy(6, 0, 1), HiddenWords.BAD);
        due.is("wordy(-1, ..)", x.wordy(-1, 0, 1), HiddenWords.BAD);
        due.is("wordy of ROW 6", x.wordy(2, 6, 1), HiddenWords.BAD);
        due.is("wordy of ROW -1", x.wordy(2, -1, 1), HiddenWords.BAD);
        due.is("choices of ROW 6", x.wordy(2, 0, 6), HiddenWords.BAD);
        due.is("choices of ROW -1", x.wordy(2, 0, -1), HiddenWords.BAD);
        due.finds("none there", x, 0, x.wordy(2, 3, 1), 1);
        due.finds("no choices there", x, 1, x.wordy(2, 0, 3), 1);
        x.row(3, 0);
        due.finds("no DOTS", x, 0, x.wordy(2, 3, 3), 5);
        Due.row(x, 3, 1, 99);
        due.finds("not as many, ahead of numbers", x, 1, x.wordy(2, 0, 3), 5);
        due.finds("not as many", x, 2, x.wordy(2, 3, 0), 5);
        Due.row(x, 3, 1, 10, 4);
        due.finds("ten choices", x, 0, x.wordy(2, 0, 3), 3);
        Due.row(x, 3, 0, 9, 4);
        due.finds("no choice", x, 1, x.wordy(2, 0, 3), 3);
        Due.row(x, 3, 1, 8, 4);
        due.finds("a choice not below", x, 2, x.wordy(2, 0, 3), 3);
        Due.row(x, 3, 1, 8, 2);
        due.finds("the first choice not below", x, 3, x.wordy(2, 3, 1), 3);
        Due.row(x, 3, 0, -1, 2);
        due.finds("a choice below 0", x, 4, x.wordy(2, 3, 1), 3);
        places("refused ones change nothing", x, 2, 0, 0, 8, 2);
        x.wet(2, 6);
        due.is("wordy anew", x.wordy(2, 0, 1), 3);
        places("anew, not told WET", x, 2, 4, 1, 0, 0);
        due.is("another KIND has no choices", x.cover(2, 0, 0), 3);
        places("another KIND has no choices", x, 2, 4, 0, 0, 0);
        places("another KIND has no choices", x, 2, 3, 10, 10, 10);
    }

    private static void wet() {
        HiddenWords x = new HiddenWords();
        Due.row(x, 0, 1, 2, 3);
        x.cover(0, 0, 0);
        due.is("wet", x.wet(0, 5), 2);
        places("wet", x, 0, 4, 1, 0, 1);
        due.is("told anew", x.wet(0, 2), 1);
        places("told anew", x, 0, 4, 0, 1, 0);
        due.is("its own places alone", x.wet(0, MAX), 3);
        due.is("none", x.wet(0, 0), 0);
        x.row(1, 40);
        x.grey(1, 1, 7, true);
        due.is("bits 0 to 30 alone", x.wet(1, MAX), 31);
        due.is("place 30", Due.told(x, x.dot(1, 30, 4)), 1);
        due.is("place 31", Due.told(x, x.dot(1, 31, 4)), 0);
        due.is("place 32", Due.told(x, x.dot(1, 32, 4)), 0);
        due.is("place 39", Due.told(x, x.dot(1, 39, 4)), 0);
        x.cover(2, 4, 0);
        due.is("all of an ORDERED one", x.wet(2, 0), 3);
        Due.row(x, 3, 0, 0, 0);
        Due.row(x, 4, 1, 2, 1);
        x.wordy(3, 3, 4);
        due.is("WORDY", x.wet(3, 0), 2);
        due.is("WORDY", x.wet(3, 1), 2);
        due.is("WORDY", x.wet(3, 2), 3);
        due.is("below 0", x.wet(0, -1), HiddenWords.BAD);
        due.is("below 0, and missing", x.wet(5, Integer.MIN_VALUE), HiddenWords.BAD);
        due.is("wet(6, 0)", x.wet(6, 0), HiddenWords.BAD);
        due.is("wet(-1, 0)", x.wet(-1, 0), HiddenWords.BAD);
        due.finds("none there", x, 0, x.wet(5, 0), 1);
    }

    private static void drop() {
        HiddenWords x = new HiddenWords();
        Due.row(x, 0, 1);
        x.cover(3, 0, 0);
        due.is("drop", x.drop(3), 1);
        due.finds("dropped", x, 0, x.kind(3), 1);
        due.finds("drop again", x, 1, x.drop(3), 1);
        due.is("drop(6)", x.drop(6), HiddenWords.BAD);
        due.is("drop(-1)", x.drop(-1), HiddenWords.BAD);
        due.is("count(2)", x.count(2), 0);
        due.is("count(5)", x.count(5), 0);
    }

    private static void dots() {
        HiddenWords x = new HiddenWords();
        Due.row(x, 0, 9, 8, 7);
        x.cover(1, 4, 0);
        due.is("dots", x.dots(1, 5), 3);
        due.row("dots", x, 5, "[9 8 7]");
        x.row(2, 10);
        due.is("dots anew", x.dots(1, 2), 3);
        due.row("dots anew", x, 2, "[9 8 7]");
        due.is("dots(6, 0)", x.dots(6, 0), HiddenWords.BAD);
        due.is("dots(-1, 0)", x.dots(-1, 0), HiddenWords.BAD);
        due.is("dots(1, 6)", x.dots(1, 6), HiddenWords.BAD);
        due.is("dots(1, -1)", x.dots(1, -1), HiddenWords.BAD);
        int nothing = x.findings(1);
        due.finds("none there", x, nothing, x.dots(0, 0), 1);
        due.row("refused ones change nothing", x, 0, "[9 8 7]");
    }

    private static void dot() {
        HiddenWords x = new HiddenWords();
        Due.row(x, 0, 4, 5, 6, 7);
        x.cover(0, 0, 0);
        places("BIT", x, 0, 1, 0, 1, 0, 1);
        places("FLIPPED", x, 0, 2, 5, 4, 7, 6);
        places("PRICE", x, 0, 3, 10, 10, 10, 10);
        x.cover(1, 4, 0);
        places("ORDERED BIT", x, 1, 1, 0, 1, 0, 1);
        places("ORDERED FLIPPED", x, 1, 2, 5, 4, 7, 6);
        places("ORDERED PRICE", x, 1, 3, 10, 10, 10, 10);
        places("ORDERED WET", x, 1, 4, 1, 1, 1, 1);
        x.grey(2, 0, 4, true);
        places("PRINTED BIT", x, 2, 1, 0, 0, 1, 1);
        places("PRINTED FLIPPED", x, 2, 2, 6, 7, 4, 5);
        x.grey(3, 0, 4, false);
        places("GREY BIT", x, 3, 1, 0, 1, 0, 1);
        places("GREY FLIPPED", x, 3, 2, 5, 4, 7, 6);
        Due.row(x, 1, 0, 1, 1, 2, 8);
        Due.row(x, 2, 1, 2, 3, 3, 9);
        x.wordy(4, 1, 2);
        places("WORDY BIT", x, 4, 1, 0, 1, 1, 0, 0);
        places("WORDY FLIPPED", x, 4, 2, 0, 0, 2, 1, 7);
        due.is("FLIPPED is not done", Due.told(x, x.dot(4, 3, 0)), 2);
        due.is("what 5", x.dot(0, 0, 5), HiddenWords.BAD);
        due.is("what -1", x.dot(0, 0, -1), HiddenWords.BAD);
        due.is("dot(6, ..)", x.dot(6, 0, 0), HiddenWords.BAD);
        due.is("dot(-1, ..)", x.dot(-1, 0, 0), HiddenWords.BAD);
        due.finds("none there", x, 0, x.dot(5, 0, 0), 1);
        due.finds("beyond", x, 0, x.dot(0, 4, 0), 2);
        due.finds("beyond", x, 1, x.dot(0, 40, 4), 2);
        due.finds("ahead", x, 2, x.dot(0, -1, 0), 2);
        due.is("asked() is as it was", x.asked(), 2);
    }

    private static void prices() {
        HiddenWords x = new HiddenWords();
        // two whole lines and one of two DOTS:  10 12 20 / 11 11 30 / 10 90
        Due.row(x, 0, 10, 12, 20, 11, 11, 30, 10, 90);
        x.grey(0, 0, 3, false);
        places("GREY PRICE", x, 0, 3,
                60 / (1 + 2 + 1) + 1, 60 / (1 + 2 + 8 + 1) + 1, 60 / (1 + 8 + 10) + 1,
                60 / (1 + 0 + 1 + 1) + 1, 60 / (1 + 0 + 19 + 1 + 79) + 1, 60 / (1 + 19 + 10) + 1,
                60 / (1 + 80 + 1) + 1, 60 / (1 + 80 + 79) + 1);
        x.grey(1, 0, 3, true);
        places("PRINTED PRICE", x, 1, 3, 32, 12, 8, 42, 2, 6, 2, 2);
        Due.row(x, 1, 77);
        x.grey(2, 1, 1, true);
        places("a single DOT", x, 2, 3, 122);
        Due.row(x, 1, 0, 0, 0, 0, 0, 0, 0, 0, 0);
        Due.row(x, 2, 1, 2, 3, 4, 5, 6, 7, 8, 9);
        x.wordy(3, 1, 2);
        places("WORDY PRICE", x, 3, 3, 12, 6, 4, 3, 2, 2, 1, 1, 1);
    }

    private static void kind() {
        HiddenWords x = new HiddenWords();
        due.finds("none there", x, 0, x.kind(0), 1);
        due.is("kind(6)", x.kind(6), HiddenWords.BAD);
        due.is("kind(-1)", x.kind(-1), HiddenWords.BAD);
        Due.row(x, 0, 0, 1);
        Due.row(x, 1, 1, 2);
        x.cover(0, 0, 0);
        x.grey(1, 0, 1, false);
        x.grey(2, 0, 1, true);
        x.wordy(3, 0, 1);
        x.cover(4, 4, 0);
        for (int c = 0; c < 5; c++) due.is("kind(" + c + ")", x.kind(c), c);
    }

    private static void mark() {
        HiddenWords x = new HiddenWords();
        Due.row(x, 0, 127, 128, 3, 255, 2);
        x.cover(0, 0, 0);
        x.grey(1, 0, 2, false);
        x.grey(2, 0, 5, true);
        x.cover(4, 4, 0);
        Due.row(x, 1, 0, 1, 0, 0, 0);
        Due.row(x, 2, 1, 2, 9, 1, 1);
        x.wordy(3, 1, 2);
        int[][] want = {
            {-3, -3, -3, -3},
            {3, -3, -3, -3},
            {1, 2, -3, -3},
            {-3, -3, 14, -3},
            {-3, -3, -3, 2}};
        for (int c = 0; c < 5; c++) {
            for (int kind = 1; kind <= 4; kind++) {
                int before = x.findings(3);
                int got = x.mark(c, kind);
                due.is("mark(" + c + ", " + kind + ")", got, want[c][kind - 1]);
                due.is("findings(3)", x.findings(3), got == -3 ? before + 1 : before);
            }
        }
        due.is("KIND 0", x.mark(0, 0), HiddenWords.BAD);
        due.is("KIND 5", x.mark(0, 5), HiddenWords.BAD);
        due.is("KIND -1", x.mark(0, -1), HiddenWords.BAD);
        due.is("mark(6, 1)", x.mark(6, 1), HiddenWords.BAD);
        due.is("mark(-1, 1)", x.mark(-1, 1), HiddenWords.BAD);
        due.finds("none there", x, 0, x.mark(5, 1), 1);
        x.grey(1, 0, 3, false);
        due.is("a shorter last line", x.mark(1, 1), 2);
        x.grey(1, 0, 1, false);
        due.is("lines of one", x.mark(1, 1), 5);
        Due.row(x, 0, 200, 3);
        x.grey(2, 0, 1, true);
        due.is("the first DOT is above 127", x.mark(2, 2), 1);
        x.cover(4, 4, 0);
        due.is("the second DOT is less", x.mark(4, 4), 1);
        x.grey(1, 0, 40, false);
        due.is("a long line", x.mark(1, 1), 1);
    }
}
