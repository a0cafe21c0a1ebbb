/** Promises 23 and 24, breaks, with answers worked out by hand from the document. */
public final class BreakTest {
    private static final int N = LetterTables.NONE;
    private static final int O = Kinds.O, A = Kinds.A, D = Kinds.D, B = Kinds.B, M = Kinds.M, J = Kinds.J, S = Kinds.S,
            T = Kinds.T, U = Kinds.U;

    public static void main(String[] args) {
        clusters();
        words();
        dictionary();
        wrong();
        sense();
        Due.end();
    }

    private static void breaks(LetterTables x, int what, long want, int... text) {
        Due.write(x, 0, text);
        Due.is("23: breaks " + what + " of " + Due.read(x, 0), want, () -> x.breaks(0, what));
    }

    private static void clusters() {
        LetterTables x = Kinds.table();
        breaks(x, 0, 0);
        breaks(x, 0, 0, A);
        breaks(x, 0, 0, M);
        breaks(x, 0, Kinds.bits(1), A, A);
        breaks(x, 0, 0, A, M, M);
        breaks(x, 0, Kinds.bits(1), M, A, M);
        breaks(x, 0, Kinds.bits(1, 3), A, J, A, A);
        breaks(x, 0, Kinds.bits(1), A, J, J, A);
        breaks(x, 0, Kinds.bits(1, 3, 5, 6, 8), M, A, M, J, M, A, J, A, A);
        int[] full = new int[40];
        breaks(x, 0, 0xFFFFFFFFFEL, full);
        full[39] = M;
        breaks(x, 0, 0x7FFFFFFFFEL, full);
    }

    private static void words() {
        LetterTables x = Kinds.table();
        breaks(x, 1, 0);
        breaks(x, 2, 0);
        breaks(x, 1, 0, A, D, A, A, D, D);
        breaks(x, 1, Kinds.bits(1, 3), A, B, B, A);
        breaks(x, 2, Kinds.bits(3), A, B, B, A);
        breaks(x, 1, Kinds.bits(1, 2, 3), A, O, O, A);
        breaks(x, 2, 0, A, O, O, A);
        breaks(x, 2, Kinds.bits(2, 4), O, B, O, B, D, B);
        breaks(x, 1, Kinds.bits(1), B, S);
        breaks(x, 2, Kinds.bits(1), B, S);
        breaks(x, 1, Kinds.bits(1), S, S);
        breaks(x, 2, Kinds.bits(1), S, S);
        breaks(x, 1, Kinds.bits(1, 2), S, B, S);
        breaks(x, 2, Kinds.bits(2), S, B, S);
        breaks(x, 1, Kinds.bits(1, 2), S, A, S);
        breaks(x, 2, 0, S, A, S);
        // A cluster has the kind of its first letter.
        breaks(x, 1, 0, A, M, A);
        breaks(x, 1, 0, B, M, B);
        breaks(x, 1, Kinds.bits(1), M, A);
        breaks(x, 1, Kinds.bits(3), M, M, M, A);
        breaks(x, 1, Kinds.bits(2), J, A, A);
        breaks(x, 2, Kinds.bits(1), B, J, B);
        breaks(x, 1, Kinds.bits(1), A, J, A);
        breaks(x, 2, Kinds.bits(2), S, M, S, J);
        int[] full = new int[40];
        breaks(x, 1, 0xFFFFFFFFFEL, full);
        full[38] = B;
        breaks(x, 2, 1L << 39, full);
    }

    private static void word(LetterTables x, int... letters) {
        Due.write(x, 5, letters);
        x.addWord(5);
    }

    private static void dictionary() {
        LetterTables x = Kinds.table();
        word(x, S, T);
        word(x, S, T, U);
        word(x, T, U);
        breaks(x, 1, Kinds.bits(3), S, T, U, T, U);
        breaks(x, 2, Kinds.bits(3), S, T, U, T, U);
        breaks(x, 1, Kinds.bits(2), S, T, S, T, U);
        breaks(x, 1, Kinds.bits(1), U, S, T);
        breaks(x, 1, Kinds.bits(1, 2, 3), U, U, U, U);
        breaks(x, 1, Kinds.bits(2, 3), S, T, A, S, T);
        breaks(x, 2, 0, S, T, A, S, T);
        // The longest one there ends within a cluster, so the one that ends with a cluster is taken.
        breaks(x, 1, Kinds.bits(2), S, T, U, M);
        breaks(x, 1, Kinds.bits(1), S, T, M);
        word(x, S, M);
        breaks(x, 1, Kinds.bits(2, 4), S, M, S, M, S);
        breaks(x, 1, Kinds.bits(2), S, M, T, U);
        // Words stand within a row of SEAMLESS clusters.
        word(x, S, T, U, A);
        breaks(x, 1, Kinds.bits(3), S, T, U, A);
        word(x, A, A);
        breaks(x, 1, 0, A, A, A);
        breaks(x, 1, Kinds.bits(1), A, S, T, U);
        // Not even one that would go on beyond it.
        LetterTables z = Kinds.table();
        word(z, T, U);
        word(z, S, T, U, A);
        breaks(z, 1, Kinds.bits(1, 3), S, T, U, A);
        // The rest of a row is looked at from the end of the last word.
        LetterTables y = Kinds.table();
        word(y, S, T, U, S, T, U, S, T);
        word(y, T, U);
        breaks(y, 1, Kinds.bits(8), S, T, U, S, T, U, S, T, T, U);
        breaks(y, 1, Kinds.bits(1, 3, 4, 6), S, T, U, S, T, U, S);
    }

    private static void wrong() {
        LetterTables x = Kinds.table();
        Due.thrown("23: slot", Due.INDEX, () -> x.breaks(6, 3));
        Due.thrown("23: slot", Due.INDEX, () -> x.breaks(-1, 0));
        Due.thrown("23: what 3", Due.ARGUMENT, () -> x.breaks(0, 3));
        Due.thrown("23: what -1", Due.ARGUMENT, () -> x.breaks(0, -1));
    }

    private static void moves(LetterTables x, int[] on, int[] back) {
        for (int i = 0; i < on.length; i++) {
            int place = i;
            Due.is("24: on from " + i + " in " + Due.read(x, 0), on[i], () -> x.bySense(0, place, true));
            Due.is("24: back from " + i + " in " + Due.read(x, 0), back[i], () -> x.bySense(0, place, false));
        }
    }

    private static void sense() {
        LetterTables x = Kinds.table();
        moves(x, new int[] {0}, new int[] {0});
        Due.write(x, 0, A);
        moves(x, new int[] {1, 1}, new int[] {0, 0});
        Due.write(x, 0, A, M, A, J, A);
        moves(x, new int[] {2, 2, 3, 5, 5, 5}, new int[] {0, 0, 0, 2, 3, 3});
        Due.write(x, 0, M, M);
        moves(x, new int[] {2, 2, 2}, new int[] {0, 0, 0});
        Due.thrown("24: slot", Due.INDEX, () -> x.bySense(6, 0, true));
        Due.thrown("24: slot", Due.INDEX, () -> x.bySense(-1, 0, true));
        Due.thrown("24: place", Due.INDEX, () -> x.bySense(0, 3, false));
        Due.thrown("24: place", Due.INDEX, () -> x.bySense(0, N, true));
        Due.thrown("24: empty", Due.INDEX, () -> x.bySense(1, 1, false));
        Due.write(x, 2, new int[40]);
        Due.is("24: to the end", 40, () -> x.bySense(2, 39, true));
        Due.is("24: from the end", 39, () -> x.bySense(2, 40, false));
        Due.is("24: at the end", 40, () -> x.bySense(2, 40, true));
    }
}
