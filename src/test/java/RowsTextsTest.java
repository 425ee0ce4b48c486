/** Promises 1 to 9. */
public final class RowsTextsTest {
    private static final int MIN = Integer.MIN_VALUE, MAX = Integer.MAX_VALUE;
    private static final Due due = new Due();

    public static void main(String[] args) {
        newObject();
        row();
        lay();
        at();
        tear();
        copy();
        mean();
        text();
        put();
        due.end();
    }

    private static void newObject() {
        HiddenWords x = new HiddenWords();
        for (int what = 0; what <= 5; what++) due.is("new count(" + what + ")", x.count(what), 0);
        due.is("new asked()", x.asked(), 0);
        due.is("new upper()", x.upper(), 0);
        due.is("new lower()", x.lower(), 1);
        due.is("new finding()", x.finding(), 0);
        for (int f = 1; f <= 5; f++) due.is("new findings(" + f + ")", x.findings(f), 0);
        for (int r = 0; r < 6; r++) due.finds("new at", x, r, x.at(r, 0), 1);
        for (int t = 0; t < 4; t++) due.finds("new fault", x, 6 + t, x.fault(t), 1);
        for (int c = 0; c < 6; c++) due.finds("new kind", x, 10 + c, x.kind(c), 1);
        for (int d = 0; d < 4; d++) due.finds("new reach", x, 16 + d, x.reach(d), 1);
    }

    private static void row() {
        HiddenWords x = new HiddenWords();
        due.is("row(0, 0)", x.row(0, 0), 0);
        due.row("row(0, 0)", x, 0, "[]");
        due.is("row(5, 40)", x.row(5, 40), 40);
        due.is("at its end", Due.told(x, x.at(5, 39)), 0);
        due.is("count(0)", x.count(0), 2);
        for (int r : new int[] {-1, 6, MIN, MAX}) due.is("row of none", x.row(r, 1), HiddenWords.BAD);
        due.is("row of none with a wrong size", x.row(6, -1), HiddenWords.BAD);
        due.is("row(0, 41)", x.row(0, 41), HiddenWords.BAD);
        due.is("row(0, MAX)", x.row(0, MAX), HiddenWords.BAD);
        due.finds("row(0, -1)", x, 0, x.row(0, -1), 5);
        due.finds("row(0, MIN)", x, 1, x.row(0, MIN), 5);
        due.row("refused ones change nothing", x, 0, "[]");
        Due.row(x, 1, 5, 6, 7);
        due.is("row anew", x.row(1, 2), 2);
        due.row("row anew", x, 1, "[0 0]");
        x.row(1, 3);
        due.row("row anew and longer", x, 1, "[0 0 0]");
    }

    private static void lay() {
        HiddenWords x = new HiddenWords();
        x.row(2, 3);
        due.is("lay tells what was", Due.told(x, x.lay(2, 1, 77)), 0);
        due.is("lay tells what was", Due.told(x, x.lay(2, 1, MIN)), 77);
        due.is("lay tells what was", Due.told(x, x.lay(2, 1, MAX)), MIN);
        due.row("lay", x, 2, "[0 2147483647 0]");
        due.is("lay(6, ..)", x.lay(6, 0, 1), HiddenWords.BAD);
        due.is("lay(-1, ..)", x.lay(-1, 0, 1), HiddenWords.BAD);
        int nothing = x.findings(1);
        due.finds("lay, none there", x, nothing, x.lay(3, 0, 1), 1);
        int beyond = x.findings(2);
        due.finds("lay beyond", x, beyond, x.lay(2, 3, 1), 2);
        due.finds("lay ahead", x, beyond + 1, x.lay(2, -1, 1), 2);
        due.finds("lay far beyond", x, beyond + 2, x.lay(2, MAX, 1), 2);
        due.finds("lay beyond the limit", x, beyond + 3, x.lay(2, 40, 1), 2);
        due.row("lay", x, 2, "[0 2147483647 0]");
    }

    private static void at() {
        HiddenWords x = new HiddenWords();
        Due.row(x, 0, -5, 9);
        due.is("at(0, 0)", Due.told(x, x.at(0, 0)), -5);
        due.is("at(0, 1)", Due.told(x, x.at(0, 1)), 9);
        due.is("at(6, 0)", x.at(6, 0), HiddenWords.BAD);
        due.is("at(-1, 0)", x.at(-1, 0), HiddenWords.BAD);
        due.finds("at, none there", x, 0, x.at(1, 0), 1);
        due.finds("at beyond", x, 0, x.at(0, 2), 2);
        due.finds("at ahead", x, 1, x.at(0, -1), 2);
        due.is("asked() is as it was", x.asked(), 9);
    }

    private static void tear() {
        HiddenWords x = new HiddenWords();
        Due.row(x, 4, 1);
        due.is("tear(4)", x.tear(4), 1);
        due.row("torn", x, 4, "missing");
        due.is("count(0)", x.count(0), 0);
        due.finds("tear again", x, x.findings(1), x.tear(4), 1);
        due.is("tear(6)", x.tear(6), HiddenWords.BAD);
        due.is("tear(-1)", x.tear(-1), HiddenWords.BAD);
    }

    private static void copy() {
        HiddenWords x = new HiddenWords();
        Due.row(x, 0, 1, 2, 3, 4, 5);
        Due.row(x, 1, 10, 20, 30);
        due.is("copy", x.copy(0, 1, 1, 0, 2), 1);
        due.row("copy", x, 1, "[2 3 30]");
        due.row("copy leaves its source", x, 0, "[1 2 3 4 5]");
        due.is("copy up in itself", x.copy(0, 0, 0, 1, 4), 1);
        due.row("as if taken ahead", x, 0, "[1 1 2 3 4]");
        due.is("copy down in itself", x.copy(0, 2, 0, 0, 3), 1);
        due.row("as if taken ahead", x, 0, "[2 3 4 3 4]");
        due.is("copy of none at the ends", x.copy(0, 5, 1, 3, 0), 1);
        due.is("copy of all", x.copy(1, 0, 1, 0, 3), 1);
        due.is("copy of all to another", x.copy(1, 0, 0, 2, 3), 1);
        due.row("copy of all to another", x, 0, "[2 3 2 3 30]");
        Due.row(x, 0, 2, 3, 4, 3, 4);
        due.is("copy(6, ..)", x.copy(6, 0, 0, 0, 0), HiddenWords.BAD);
        due.is("copy to 6", x.copy(0, 0, 6, 0, -1), HiddenWords.BAD);
        due.is("copy to -1", x.copy(0, 0, -1, 0, 0), HiddenWords.BAD);
        due.finds("fewer than none, ahead of missing", x, 0, x.copy(2, 0, 3, 0, -1), 5);
        due.finds("source is missing", x, 0, x.copy(2, 0, 0, 0, 1), 1);
        due.finds("aim is missing", x, 1, x.copy(0, 99, 2, 0, 1), 1);
        int beyond = x.findings(2);
        due.finds("source too short", x, beyond + 0, x.copy(0, 3, 1, 0, 3), 2);
        due.finds("aim too short", x, beyond + 1, x.copy(0, 0, 1, 1, 3), 2);
        due.finds("source below", x, beyond + 2, x.copy(0, -1, 1, 0, 1), 2);
        due.finds("aim below", x, beyond + 3, x.copy(0, 0, 1, -1, 1), 2);
        due.finds("none from beyond the end", x, beyond + 4, x.copy(0, 6, 1, 0, 0), 2);
        due.finds("none to beyond the end", x, beyond + 5, x.copy(0, 0, 1, 4, 0), 2);
        due.finds("sums that wrap", x, beyond + 6, x.copy(0, MAX, 1, 0, MAX), 2);
        due.finds("sums that wrap", x, beyond + 7, x.copy(0, 1, 1, MAX, 1), 2);
        due.row("refused ones change nothing", x, 0, "[2 3 4 3 4]");
        due.row("refused ones change nothing", x, 1, "[2 3 30]");
    }

    private static void mean() {
        HiddenWords x = new HiddenWords();
        Due.row(x, 0, 1, 2, 4);
        due.is("mean cut", Due.told(x, x.mean(0)), 2);
        Due.row(x, 0, -1, -2, -4);
        due.is("mean cut towards 0", Due.told(x, x.mean(0)), -2);
        Due.row(x, 0, MAX, MAX, MAX);
        due.is("mean of great ones", Due.told(x, x.mean(0)), MAX);
        Due.row(x, 0, MIN, MIN);
        due.is("mean of least ones", Due.told(x, x.mean(0)), MIN);
        Due.row(x, 1, 9);
        due.is("mean of one", Due.told(x, x.mean(1)), 9);
        x.tear(1);
        x.mean(0);
        due.is("mean(6)", x.mean(6), HiddenWords.BAD);
        due.is("mean(-1)", x.mean(-1), HiddenWords.BAD);
        due.finds("mean of nothing", x, 0, x.mean(1), 1);
        x.row(1, 0);
        due.finds("mean of none", x, 0, x.mean(1), 4);
        due.is("asked() is as it was", x.asked(), MIN);
    }

    private static void text() {
        HiddenWords x = new HiddenWords();
        due.is("text(0, 60)", x.text(0, 60), 60);
        due.is("a blank", x.put(0, 59, 7), 1032);
        due.is("text(3, 0)", x.text(3, 0), 0);
        due.is("count(1)", x.count(1), 2);
        due.is("text anew", x.text(0, 60), 60);
        due.is("a blank again", x.put(0, 59, 7), 1032);
        for (int t : new int[] {-1, 4, MIN, MAX}) due.is("text of none", x.text(t, 1), HiddenWords.BAD);
        due.is("text(4, -1)", x.text(4, -1), HiddenWords.BAD);
        due.is("text(0, 61)", x.text(0, 61), HiddenWords.BAD);
        due.finds("text(0, -1)", x, 0, x.text(0, -1), 5);
        due.finds("text(1, MIN)", x, 1, x.text(1, MIN), 5);
        due.is("count(1)", x.count(1), 2);
    }

    private static void put() {
        HiddenWords x = new HiddenWords();
        x.text(1, 2);
        due.is("put", x.put(1, 0, 65), 1032);
        due.is("put", x.put(1, 0, 127), 1065);
        due.is("put, cut", x.put(1, 0, 128), 1127);
        due.is("a byte is -128 to 127", x.put(1, 0, 511), 872);
        due.is("cut to -1", x.put(1, 0, 256 + 49), 999);
        due.is("cut to 49", x.put(1, 0, MIN), 1049);
        due.is("cut to 0", x.put(1, 0, 0), 1000);
        due.is("its neighbour", x.put(1, 1, 0), 1032);
        due.is("put(4, ..)", x.put(4, 0, 0), HiddenWords.BAD);
        due.is("put(-1, ..)", x.put(-1, 0, 0), HiddenWords.BAD);
        due.finds("put, none there", x, 0, x.put(0, 0, 0), 1);
        due.finds("put beyond", x, 0, x.put(1, 2, 0), 2);
        due.finds("put ahead", x, 1, x.put(1, -1, 0), 2);
        due.is("put tells nothing by asked()", x.asked(), 0);
    }
}
