/** The letters that the tests of breaks write their texts with, by their kinds; three of them are SEAMLESS. */
final class Kinds {
    static final int O = 0, A = 1, D = 2, B = 3, M = 6, J = 7, S = 10, T = 11, U = 12;

    private Kinds() {
    }

    static LetterTables table() {
        LetterTables x = new LetterTables();
        int[][] all = {{A, LetterTables.LETTER}, {D, LetterTables.DIGIT}, {B, LetterTables.BLANK},
            {S, LetterTables.SEAMLESS}, {T, LetterTables.SEAMLESS}, {U, LetterTables.SEAMLESS}, {M, LetterTables.MARK},
            {J, LetterTables.JOINER}};
        for (int[] one : all) {
            x.letter(one[0], 0, LetterTables.NEUTRAL, one[1], one[0]);
        }
        return x;
    }

    static long bits(int... places) {
        long all = 0;
        for (int place : places) {
            all |= 1L << place;
        }
        return all;
    }
}
