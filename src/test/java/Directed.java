/** The letters that the tests of directions write their texts with. */
final class Directed {
    static final int L = 0, R = 6, NUM = 10, GAP = 11, IN = 12, OUT = 13, ER = 14, POP = 15, IF = 16, PI = 17, EL = 18,
            IL = 19, IR = 20, IN2 = 22, OUT2 = 23;

    private Directed() {
    }

    static void tell(LetterTables x) {
        int[][] all = {{L, LetterTables.LEFT}, {R, LetterTables.RIGHT}, {NUM, LetterTables.NUMBER},
            {ER, LetterTables.EMBED_RIGHT}, {EL, LetterTables.EMBED_LEFT}, {POP, LetterTables.POP},
            {IF, LetterTables.ISOLATE_FIRST}, {IL, LetterTables.ISOLATE_LEFT}, {IR, LetterTables.ISOLATE_RIGHT},
            {PI, LetterTables.POP_ISOLATE}};
        for (int[] one : all) {
            x.letter(one[0], 0, one[1], LetterTables.OTHER, one[0]);
        }
    }

    static LetterTables table() {
        LetterTables x = new LetterTables();
        tell(x);
        x.partners(IN, OUT);
        x.partners(IN2, OUT2);
        return x;
    }
}
