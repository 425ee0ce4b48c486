/** Counts answers that are not as due, and the small makers that all tests share. */
final class Due {
    private int looked = 0;
    private int wrong = 0;

    void is(String what, long got, long want) {
        looked++;
        if (got == want) return;
        wrong++;
        System.out.println(what + " answered " + got + ", due is " + want);
    }

    void holds(String what, boolean whether) {
        is(what, whether ? 1 : 0, 1);
    }

    /** A refusal by a FINDING: the answer, which one it is, and that it is counted. */
    void finds(String what, HiddenWords x, int before, int got, int finding) {
        is(what, got, HiddenWords.FINDING);
        is(what + ", finding()", x.finding(), finding);
        is(what + ", findings(" + finding + ")", x.findings(finding), before + 1);
    }

    void end() {
        System.out.println(looked + " answers looked at, " + wrong + " not as due");
        if (wrong != 0 || looked == 0) System.exit(1);
    }

    static void row(HiddenWords x, int r, int... values) {
        x.row(r, values.length);
        for (int i = 0; i < values.length; i++) x.lay(r, i, values[i]);
    }

    static void text(HiddenWords x, int t, String signs) {
        x.text(t, signs.length());
        for (int i = 0; i < signs.length(); i++) x.put(t, i, signs.charAt(i));
    }

    /** What stands in a ROW, written out; "missing" if it is. */
    static String rowOf(HiddenWords x, int r) {
        if (x.at(r, 0) == HiddenWords.FINDING && x.finding() == 1) return "missing";
        StringBuilder all = new StringBuilder("[");
        for (int i = 0; x.at(r, i) == 1; i++) all.append(i == 0 ? "" : " ").append(x.asked());
        return all.append("]").toString();
    }

    void row(String what, HiddenWords x, int r, String want) {
        looked++;
        String got = rowOf(x, r);
        if (got.equals(want)) return;
        wrong++;
        System.out.println(what + ": row " + r + " is " + got + ", due is " + want);
    }

    /** What a call told by asked(), behind the call's own answer. */
    static long told(HiddenWords x, int answer) {
        return answer == 1 ? x.asked() : Long.MIN_VALUE + answer;
    }
}
