/** Promises 19 to 22, directions, with answers worked out by hand from the document. */
public final class DirectionTest {
    private static final int N = LetterTables.NONE;
    private static final int L = Directed.L, R = Directed.R, NUM = Directed.NUM, GAP = Directed.GAP, IN = Directed.IN,
            OUT = Directed.OUT, ER = Directed.ER, POP = Directed.POP, IF = Directed.IF, PI = Directed.PI,
            EL = Directed.EL, IL = Directed.IL, IR = Directed.IR, IN2 = Directed.IN2, OUT2 = Directed.OUT2;
    private static final int M = 30, J = 31;

    public static void main(String[] args) {
        promise19();
        promise20numbers();
        promise20partners();
        promise20partnersOnceMore();
        promise20rest();
        promise20embeds();
        promise20isolates();
        promise20wrong();
        promise21();
        promise22();
        Due.end();
    }

    private static void base(LetterTables x, int want, int... text) {
        Due.write(x, 0, text);
        Due.is("19: base of " + Due.read(x, 0), want, () -> x.base(0));
    }

    private static void promise19() {
        LetterTables x = Directed.table();
        base(x, 0);
        base(x, 0, L);
        base(x, 1, R);
        base(x, 0, NUM, GAP);
        base(x, 1, NUM, GAP, R, L);
        base(x, 0, NUM, GAP, L, R);
        base(x, 1, EL, R);
        base(x, 0, ER, L);
        base(x, 0, IF, R);
        base(x, 0, IR, R, R);
        base(x, 0, IR, R, PI, L, R);
        base(x, 1, IL, L, PI, R);
        base(x, 1, PI, R);
        base(x, 1, PI, IL, L, PI, R);
        base(x, 0, IL, IL, R, PI, R, R);
        base(x, 1, IL, IL, L, PI, L, PI, R);
        base(x, 1, IL, L, PI, PI, R, L);
        base(x, 0, IL, L, POP, R);
        Due.thrown("19: slot", Due.INDEX, () -> x.base(6));
        Due.thrown("19: slot", Due.INDEX, () -> x.base(-1));
    }

    private static void levels(LetterTables x, int base, String want, int... text) {
        Due.write(x, 0, text);
        Due.same("20: levels of " + Due.read(x, 0) + " by " + base, want, Due.levels(x, 0, base));
    }

    private static void promise20numbers() {
        LetterTables x = Directed.table();
        levels(x, N, "0", L);
        levels(x, N, "1", R);
        levels(x, 1, "2", L);
        levels(x, 0, "1", R);
        levels(x, N, "0", NUM);
        levels(x, 1, "2", NUM);
        levels(x, 0, "0 0", L, NUM);
        levels(x, 0, "1 2", R, NUM);
        levels(x, 1, "2 2", L, NUM);
        levels(x, 1, "1 2", R, NUM);
        levels(x, 0, "0 1 1 2 0 0", L, R, GAP, NUM, L, NUM);
        levels(x, 0, "1 1 2 2", R, GAP, NUM, NUM);
        levels(x, 1, "2 1 1", NUM, GAP, R);
        levels(x, 1, "2 1", NUM, GAP);
        levels(x, 1, "2 1 2 2", NUM, GAP, L, NUM);
        levels(x, 0, "0 0 1", NUM, GAP, R);
    }

    private static void promise20partners() {
        LetterTables x = Directed.table();
        levels(x, 0, "1 0 0 0 1", R, IN, L, OUT, R);
        levels(x, 0, "1 1 1 1 0", R, IN, R, OUT, L);
        levels(x, 0, "0 0 1 0 1", L, IN, R, OUT, R);
        levels(x, 0, "0 1 0 1", IN, R, OUT, R);
        levels(x, 0, "1 1 1 1", R, IN, OUT, R);
        levels(x, 0, "1 0 0 0", R, IN, OUT, L);
        levels(x, 0, "1 0 1 0 0 1", R, IN, R, L, OUT, R);
        levels(x, 1, "2 1 1 1 2", L, IN, R, OUT, L);
        levels(x, 1, "2 2 2 2 1", L, IN, L, OUT, R);
        levels(x, 1, "1 1 2 1 2", R, IN, L, OUT, L);
        levels(x, 1, "1 2 1 2", IN, L, OUT, L);
        levels(x, 1, "2 2 2 2 2", L, IN, NUM, OUT, L);
        levels(x, 1, "1 2 1 2", IN, NUM, OUT, L);
    }

    private static void promise20partnersOnceMore() {
        LetterTables x = Directed.table();
        // One within another: the outer one is found ahead.
        levels(x, 0, "1 0 0 1 0 0 0", R, IN, IN, R, OUT, L, OUT);
        levels(x, 0, "1 1 1 1 1 1 0", R, IN, IN2, R, OUT2, OUT, L);
        // One behind another: the way of the one ahead counts, not that of what is in it.
        levels(x, 0, "1 1 1 1 1 1 1 0", R, IN, R, OUT, IN2, R, OUT2, L);
        levels(x, 0, "1 0 0 1 0 0 1 0 0", R, IN, L, R, OUT, IN2, R, OUT2, L);
        // Crossing: what was opened behind the one that is closed is none, nor what would close it.
        levels(x, 0, "1 1 1 1 1 0 0", R, IN, IN2, R, OUT, OUT2, L);
        levels(x, 0, "1 1 1 0 0", R, OUT, R, IN, L);
        // A closing one closes the last open one of its pair.
        levels(x, 0, "0 0 1 1 1 1 0", L, IN, R, IN, R, OUT, L);
        levels(x, 0, "0 0 0 1 0 0", L, IN, IN2, R, OUT, L);
        // What a text that was looked at before left open is nothing here.
        levels(x, 0, "0 0", L, IN);
        levels(x, 0, "0 0 1 0 1 0", L, IN, R, OUT, R, OUT);
        // Numbers being right, between them and ahead.
        levels(x, 0, "1 2 1 2 1 0", R, NUM, IN, NUM, OUT, L);
        // Not neutral: no partners.
        x.letter(OUT, 0, LetterTables.LEFT, LetterTables.OTHER, OUT);
        levels(x, 0, "1 1 1 0 1", R, IN, R, OUT, R);
        x.letter(OUT, 0, LetterTables.POP, LetterTables.OTHER, OUT);
        levels(x, 0, "0 0 1 1 1", L, IN, R, OUT, R);
        x.letter(OUT, 0, LetterTables.NEUTRAL, LetterTables.OTHER, OUT);
        levels(x, 0, "0 0 1 0 1", L, IN, R, OUT, R);
        // In frames of their own: no partners; and what is in another frame is not between them.
        levels(x, 0, "1 1 1 0 1 1 0", R, IN, R, ER, OUT, POP, L);
        levels(x, 0, "1 1 1 2 1 1 1", R, IN, ER, L, POP, OUT, R);
        levels(x, 0, "1 1 1 2 1 1 1", R, IN, IL, L, PI, OUT, R);
    }

    private static void promise20rest() {
        LetterTables x = Directed.table();
        levels(x, 0, "1 1 1 1", R, GAP, GAP, R);
        levels(x, 0, "0 1 0", GAP, R, GAP);
        levels(x, 1, "1 2 1", GAP, L, GAP);
        levels(x, 1, "1 1 2 1 1", R, GAP, L, GAP, R);
        levels(x, 0, "1 0 0 0 1", R, GAP, L, GAP, R);
        levels(x, 1, "2 2 2 2", L, GAP, GAP, L);
        levels(x, 1, "2 1 1 1", L, GAP, GAP, R);
        levels(x, 0, "1 1 1", R, POP, R);
        levels(x, 0, "1 1 1", R, PI, R);
        levels(x, N, "1 1 1 2 1", R, GAP, R, L, GAP);
    }

    private static void promise20embeds() {
        LetterTables x = Directed.table();
        levels(x, 0, "0 0 2 1 0", L, ER, L, POP, L);
        levels(x, 0, "0 0 2 2 0", L, EL, L, POP, L);
        levels(x, 1, "1 2 2 1", EL, L, POP, R);
        levels(x, 0, "0 1 3 5 7 9 9", ER, ER, ER, ER, ER, ER, R);
        levels(x, 0, "0 1 3 5 7 9 10 9 9 8 7", ER, ER, ER, ER, ER, ER, L, POP, POP, L, POP);
        levels(x, 0, "0 2 4 6 8 8", EL, EL, EL, EL, EL, L);
        levels(x, 0, "0 2 4 6 8 9", EL, EL, EL, EL, ER, R);
        levels(x, 0, "0 1 3 5 7 9 10", ER, ER, ER, ER, ER, EL, L);
        levels(x, 0, "0 1 2", ER, PI, L);
        levels(x, N, "1 2 2 1", EL, NUM, POP, R);
        levels(x, 0, "0 1 2 4 3 3 2 1", ER, EL, ER, L, POP, R, POP, POP);
    }

    private static void promise20isolates() {
        LetterTables x = Directed.table();
        levels(x, 0, "0 1 2 0 0", IR, EL, L, PI, L);
        levels(x, 0, "0 1 2 2 1 1", ER, IL, POP, L, PI, R);
        levels(x, N, "0 1 0 0", IF, R, PI, L);
        levels(x, N, "1 2 1 1", IF, L, PI, R);
        levels(x, N, "1 2 1 1", IF, GAP, PI, R);
        levels(x, N, "1 2 5 2 2 1 1", IF, IL, R, PI, L, PI, R);
        levels(x, 0, "0 3", IL, R);
        levels(x, 0, "0 1", IF, R);
        levels(x, 0, "0 2", IF, L);
        levels(x, 0, "0 0 0", L, PI, L);
        levels(x, 0, "0 1 3 5 7 9 9 9 7 8", IR, IR, IR, IR, IR, IR, R, PI, PI, L);
        levels(x, 0, "0 2 3 0 1 1 1", IL, ER, R, PI, R, POP, R);
        levels(x, 0, "0 0 0 1", IL, PI, PI, R);
    }

    private static void promise20wrong() {
        LetterTables x = Directed.table();
        Due.write(x, 0, L, R);
        Due.thrown("20: slot", Due.INDEX, () -> x.level(6, 0, 0));
        Due.thrown("20: slot", Due.INDEX, () -> x.level(-1, 0, 0));
        Due.thrown("20: place", Due.INDEX, () -> x.level(0, 2, 0));
        Due.thrown("20: place NONE", Due.INDEX, () -> x.level(0, N, 5));
        Due.thrown("20: empty", Due.INDEX, () -> x.level(1, 0, 0));
        Due.thrown("20: base 2", Due.ARGUMENT, () -> x.level(0, 0, 2));
        Due.thrown("20: base -2", Due.ARGUMENT, () -> x.level(0, 1, -2));
        Due.is("20: base 1", 2, () -> x.level(0, 0, 1));
        Due.is("20: base 0", 0, () -> x.level(0, 0, 0));
        Due.is("20: own base", 0, () -> x.level(0, 0, N));
    }

    private static void screen(LetterTables x, int base, String want, int... text) {
        Due.write(x, 0, text);
        Due.same("21: " + Due.read(x, 0) + " by " + base, want, Due.screen(x, 0, base));
    }

    private static void promise21() {
        LetterTables x = Directed.table();
        screen(x, N, "0 1 2", L, GAP, L);
        screen(x, N, "2 1 0", R, GAP, R);
        screen(x, 0, "0 3 2 1", L, R, R, NUM);
        screen(x, 0, "1 2 0", R, NUM, NUM);
        screen(x, 1, "3 4 2 0 1", L, L, R, NUM, NUM);
        screen(x, 1, "1 0", L, R);
        screen(x, 0, "0 1", L, R);
        screen(x, 0, "0 2 1 3 4 6 5", L, R, R, L, L, R, R);
        Due.thrown("21: slot", Due.INDEX, () -> x.shown(6, 0, 0));
        Due.thrown("21: place", Due.INDEX, () -> x.shown(0, 40, 2));
        Due.thrown("21: place NONE", Due.INDEX, () -> x.shown(0, N, 0));
        Due.thrown("21: empty", Due.INDEX, () -> x.shown(1, 0, 0));
        Due.thrown("21: base 2", Due.ARGUMENT, () -> x.shown(0, 0, 2));
        Due.thrown("21: base -2", Due.ARGUMENT, () -> x.shown(0, 0, -2));
    }

    private static void sight(LetterTables x, int place, int right, int left) {
        Due.is("22: right of " + place + " in " + Due.read(x, 0), right, () -> x.bySight(0, place, true));
        Due.is("22: left of " + place + " in " + Due.read(x, 0), left, () -> x.bySight(0, place, false));
    }

    private static void promise22() {
        LetterTables x = Directed.table();
        x.letter(M, 0, LetterTables.NEUTRAL, LetterTables.MARK, M);
        x.letter(J, 0, LetterTables.NEUTRAL, LetterTables.JOINER, J);
        // On the screen: 3 2 1 0, of which 1 is a mark.
        Due.write(x, 0, R, M, R, L);
        sight(x, 0, N, 2);
        sight(x, 1, 0, 2);
        sight(x, 2, 0, 3);
        sight(x, 3, 2, N);
        // On the screen as it stands: 0, 1 with 2 joined to it, 3.
        Due.write(x, 0, L, J, L, L);
        sight(x, 0, 1, N);
        sight(x, 1, 3, 0);
        sight(x, 2, 3, 1);
        sight(x, 3, N, 1);
        // On the screen: 0 3 2 1 4.
        Due.write(x, 0, L, R, R, R, L);
        sight(x, 0, 3, N);
        sight(x, 3, 2, 0);
        sight(x, 1, 4, 2);
        sight(x, 4, N, 1);
        // A mark at the beginning of the text begins a cluster.
        Due.write(x, 0, M, L);
        sight(x, 1, N, 0);
        sight(x, 0, 1, N);
        Due.thrown("22: slot", Due.INDEX, () -> x.bySight(6, 0, true));
        Due.thrown("22: slot", Due.INDEX, () -> x.bySight(-1, 0, true));
        Due.thrown("22: place", Due.INDEX, () -> x.bySight(0, 2, true));
        Due.thrown("22: place", Due.INDEX, () -> x.bySight(0, N, false));
        Due.thrown("22: empty", Due.INDEX, () -> x.bySight(1, 0, false));
    }
}
