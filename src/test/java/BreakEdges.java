/** The sentences of 'Breaks', and what the promises 23 and 24 add to them. */
final class BreakEdges {
    private static final int O = Kinds.O, A = Kinds.A, D = Kinds.D, B = Kinds.B, M = Kinds.M, J = Kinds.J, S = Kinds.S,
            T = Kinds.T, U = Kinds.U;

    private BreakEdges() {
    }

    static void all() {
        clusters();
        kinds();
        words();
        dictionary();
        dictionaryRows();
        lines();
        asked();
        sense();
    }

    private static void breaks(int what, long want, int... text) {
        breaks(Kinds.table(), what, want, text);
    }

    private static void breaks(LetterTables x, int what, long want, int... text) {
        Due.write(x, 0, text);
        Due.is("breaks " + what + " of " + Due.read(x, 0), want, () -> x.breaks(0, what));
    }

    private static void word(LetterTables x, int... letters) {
        Due.write(x, 5, letters);
        x.addWord(5);
    }

    private static void clusters() {
        Said.so("Breaks", "A cluster ends ahead of each letter but a MARK, and but behind a JOINER.", () -> {
            breaks(0, 0);
            breaks(0, 0, A);
            breaks(0, 0, M);
            breaks(0, 0, J);
            for (int letter : new int[] {O, A, D, B, S}) {
                breaks(0, Kinds.bits(1), A, letter);
                breaks(0, 0, J, letter);
                breaks(0, 0, letter, M);
            }
            breaks(0, Kinds.bits(1), A, J);
            breaks(0, Kinds.bits(1), A, J, A);
            breaks(0, Kinds.bits(1), A, J, M, M);
            breaks(0, Kinds.bits(1, 3), A, J, M, A);
            breaks(0, Kinds.bits(1), A, J, J, J);
            breaks(0, Kinds.bits(2), A, M, J, A);
            breaks(0, Kinds.bits(1), M, A);
            breaks(0, 0, Due.of(40, M));
            breaks(0, 0, Due.of(40, J));
            breaks(0, 0xFFFFFFFFFEL, Due.of(40, A));
            breaks(0, Kinds.bits(39), Due.of(40, M, A));
        });
        Said.so("Breaks", "Its kind is that of its first letter.", () -> {
            breaks(1, 0, A, M, A, M, M, D);
            breaks(1, 0, B, M, B);
            breaks(1, Kinds.bits(1), M, A);
            breaks(1, Kinds.bits(2), M, M, A);
            breaks(1, Kinds.bits(2), J, A, A);
            breaks(1, Kinds.bits(1, 3), A, J, A, A);
            breaks(2, Kinds.bits(2), B, M, A);
            breaks(2, Kinds.bits(2), S, M, S, M);
            breaks(2, 0, M, B, M);
        });
    }

    private static void kinds() {
        Said.so("Breaks", "Words end between two clusters, but where both are LETTER or DIGIT, or both BLANK", () -> {
            int[] firsts = {O, A, D, B, M, J, S};
            // A text of two clusters: what begins it, and what follows; a joiner is closed by a letter of its cluster.
            for (int one : firsts) {
                for (int other : new int[] {O, A, D, B, J, S}) {
                    boolean isWordly = (one == A || one == D) && (other == A || other == D);
                    boolean isNone = isWordly || one == B && other == B;
                    int[] text = one == J ? new int[] {J, O, other} : new int[] {one, other};
                    int place = text.length - 1;
                    breaks(1, isNone ? 0 : Kinds.bits(place), text);
                    boolean isLine = one == B && other != B || one == S && other == S;
                    breaks(2, isLine ? Kinds.bits(place) : 0, text);
                }
            }
        });
        Said.so("23", "what: 0 of clusters, 1 of words, 2 of lines", () -> {
            LetterTables x = Kinds.table();
            Due.write(x, 0, A, A, B, B, A);
            Due.is("0", Kinds.bits(1, 2, 3, 4), () -> x.breaks(0, 0));
            Due.is("1", Kinds.bits(2, 4), () -> x.breaks(0, 1));
            Due.is("2", Kinds.bits(4), () -> x.breaks(0, 2));
            Due.thrown("3", Due.ARGUMENT, () -> x.breaks(0, 3));
            Due.thrown("-1", Due.ARGUMENT, () -> x.breaks(0, -1));
        });
    }

    private static void words() {
        Said.so("Breaks", "Words end between two clusters", () -> {
            for (int what = 0; what < 3; what++) {
                breaks(what, 0);
                for (int letter : new int[] {O, A, D, B, M, J, S}) {
                    breaks(what, 0, letter);
                    breaks(what, 0, letter, M);
                }
            }
            breaks(1, 0xFFFFFFFFFEL, Due.of(40, O));
            breaks(1, 0, Due.of(40, A, D));
            breaks(1, 0, Due.of(40, B));
            breaks(1, Kinds.bits(39), Due.of(40, A, B));
        });
    }

    private static void dictionary() {
        Said.so("Breaks", "the longest word of the dictionary that stands there and ends with a cluster, otherwise one"
                + " cluster, is a word, and so on behind it", () -> {
                    breaks(1, Kinds.bits(1, 2), S, S, S);
                    LetterTables x = Kinds.table();
                    word(x, S, T);
                    word(x, S, T, U);
                    word(x, T, U);
                    breaks(x, 1, Kinds.bits(3), S, T, U, S, T);
                    breaks(x, 1, Kinds.bits(2), S, T, S, T);
                    breaks(x, 1, Kinds.bits(2, 4), S, T, S, T, S, T, U);
                    breaks(x, 1, Kinds.bits(3), S, T, U, T, U);
                    breaks(x, 1, Kinds.bits(1), U, S, T, U);
                    breaks(x, 1, Kinds.bits(1, 2), U, U, U);
                    // All of it stands there, not only its beginning.
                    breaks(x, 1, Kinds.bits(1), T, S, T);
                    breaks(x, 1, 0, S, T);
                    breaks(x, 1, 0, S);
                });
        Said.so("Breaks", "that stands there and ends with a cluster", () -> {
            LetterTables x = Kinds.table();
            word(x, S, T);
            breaks(x, 1, 0, S, T);
            breaks(x, 1, Kinds.bits(1), S, T, M);
            breaks(x, 1, Kinds.bits(1, 3), S, T, M, S, T);
            word(x, S, M);
            breaks(x, 1, Kinds.bits(2), S, M, T);
            breaks(x, 1, Kinds.bits(3), S, M, M, T);
            word(x, S);
            breaks(x, 1, Kinds.bits(2), S, T, S);
            word(x, S, T, U);
            breaks(x, 1, Kinds.bits(2), S, T, U, M);
            word(x, S, T, U, M);
            breaks(x, 1, Kinds.bits(4), S, T, U, M, U);
        });
        Said.so("Breaks", "the longest word of the dictionary", () -> {
            LetterTables x = Kinds.table();
            word(x, S, S);
            word(x, S, S, S, S, S, S, S, S);
            word(x, S);
            breaks(x, 1, Kinds.bits(2, 4, 6), Due.of(7, S));
            breaks(x, 1, 0, Due.of(8, S));
            breaks(x, 1, Kinds.bits(8), Due.of(9, S));
            breaks(x, 1, Kinds.bits(8, 16, 24, 32), Due.of(40, S));
            breaks(x, 1, Kinds.bits(8, 10, 11), Due.of(12, S, T, T));
        });
    }

    private static void dictionaryRows() {
        Said.so("Breaks", "in a longest row of SEAMLESS clusters, from its beginning on", () -> {
            LetterTables x = Kinds.table();
            word(x, S, T);
            word(x, A, A);
            word(x, S, T, A);
            breaks(x, 1, Kinds.bits(2, 3), S, T, A, S, T);
            breaks(x, 1, Kinds.bits(2, 4), A, A, S, T, B);
            breaks(x, 1, 0, A, A, A);
            breaks(x, 1, Kinds.bits(1, 2, 3), S, A, T, S);
            breaks(x, 1, Kinds.bits(2), S, M, S, T);
            breaks(x, 1, Kinds.bits(1), T, S, T);
            LetterTables y = Kinds.table();
            word(y, S, T);
            word(y, T, U);
            breaks(y, 1, Kinds.bits(2), S, T, U);
            breaks(y, 1, Kinds.bits(2, 3), S, T, U, A, A);
            // A word that goes on beyond the row does not stand there.
            LetterTables z = Kinds.table();
            word(z, T, U);
            word(z, S, T, U, A);
            word(z, S, T, U, M, A);
            breaks(z, 1, Kinds.bits(1, 3), S, T, U, A);
            breaks(z, 1, Kinds.bits(1, 2, 4), S, T, U, M, A);
            // A letter within a cluster of another kind stands in no row.
            breaks(y, 1, Kinds.bits(2), J, S, T, U);
            breaks(y, 1, Kinds.bits(3), A, M, M, S, T);
        });
        Said.so("Breaks", "or both SEAMLESS and not where words of the dictionary end", () -> {
            LetterTables x = Kinds.table();
            word(x, S, T, U, S, T, U, S, T);
            breaks(x, 0, Kinds.bits(1, 2, 3, 4, 5, 6, 7), S, T, U, S, T, U, S, T);
            breaks(x, 1, 0, S, T, U, S, T, U, S, T);
            breaks(x, 2, 0, S, T, U, S, T, U, S, T);
            breaks(x, 1, Kinds.bits(1, 2, 3, 4, 5, 6), S, T, U, S, T, U, S);
            breaks(x, 2, Kinds.bits(1, 2, 3, 4, 5, 6), S, T, U, S, T, U, S);
        });
    }

    private static void lines() {
        Said.so("Breaks", "Lines can end where words end, if the cluster ahead is BLANK and the one behind is not, or both"
                + " are SEAMLESS.", () -> {
                    breaks(2, Kinds.bits(1), B, A);
                    breaks(2, 0, A, B);
                    breaks(2, 0, B, B);
                    breaks(2, Kinds.bits(3), A, B, B, A);
                    breaks(2, Kinds.bits(1), S, S);
                    breaks(2, Kinds.bits(1), B, S);
                    breaks(2, 0, S, B);
                    breaks(2, Kinds.bits(2), S, B, S);
                    breaks(2, 0, S, A, S);
                    breaks(2, Kinds.bits(39), Due.of(40, B, A));
                    breaks(2, Kinds.bits(1), B, O);
                    breaks(2, 0, Due.of(40, A, B));
                    breaks(2, 0xFFFFFFFFFEL, Due.of(40, S));
                    LetterTables x = Kinds.table();
                    word(x, S, T);
                    breaks(x, 2, Kinds.bits(2), S, T, U);
                    breaks(x, 2, 0, S, T);
                });
    }

    private static void asked() {
        Said.so("23", "Returns where breaks are.", () -> {
            for (int slot = 0; slot < 6; slot++) {
                int own = slot;
                LetterTables x = Kinds.table();
                Due.is("none in an empty text", 0, () -> x.breaks(own, 0));
                Due.write(x, slot, B, A);
                for (int what = 0; what < 3; what++) {
                    int which = what;
                    Due.is("slot " + slot + " of " + what, Kinds.bits(1), () -> x.breaks(own, which));
                }
            }
        });
        Said.so("23", "Returns bit i for a break ahead of the letter i, from 1 on.", () -> {
            for (int size = 1; size <= 40; size++) {
                for (int what = 0; what < 3; what++) {
                    breaks(what, (1L << size) - 2, Due.of(size, S));
                }
            }
        });
        Said.so("23", "Throws IndexOutOfBoundsException if there is no such slot", () -> {
            LetterTables x = Kinds.table();
            Due.thrown("6", Due.INDEX, () -> x.breaks(6, 0));
            Due.thrown("-1, what out of range", Due.INDEX, () -> x.breaks(-1, 3));
        });
    }

    private static void moves(int[] text, int[] on, int[] back) {
        LetterTables x = Kinds.table();
        Due.write(x, 0, text);
        for (int i = 0; i < on.length; i++) {
            int place = i;
            Due.is("on from " + i + " in " + Due.read(x, 0), on[i], () -> x.bySense(0, place, true));
            Due.is("back from " + i + " in " + Due.read(x, 0), back[i], () -> x.bySense(0, place, false));
        }
        Due.thrown("behind the end", Due.INDEX, () -> x.bySense(0, on.length, true));
        Due.thrown("behind the end", Due.INDEX, () -> x.bySense(0, on.length, false));
        Due.thrown("-1", Due.INDEX, () -> x.bySense(0, -1, true));
        Due.thrown("-1", Due.INDEX, () -> x.bySense(0, -1, false));
    }

    private static void sense() {
        Said.so("24", "to the next, or the last, place at which a cluster begins, or the text ends", () -> {
            moves(Due.row(A, A), Due.row(1, 2, 2), Due.row(0, 0, 1));
            moves(Due.row(A, M, A, J, A), Due.row(2, 2, 3, 5, 5, 5), Due.row(0, 0, 0, 2, 3, 3));
            moves(Due.row(M, M), Due.row(2, 2, 2), Due.row(0, 0, 0));
            moves(Due.row(J, A, A), Due.row(2, 2, 3, 3), Due.row(0, 0, 0, 2));
        });
        Said.so("24", "Returns the place", () -> {
            LetterTables x = Kinds.table();
            Due.write(x, 5, Due.of(40, A));
            Due.is("from the first", 1, () -> x.bySense(5, 0, true));
            Due.is("to the end", 40, () -> x.bySense(5, 39, true));
            Due.is("from the end", 39, () -> x.bySense(5, 40, false));
            Due.is("to the first", 0, () -> x.bySense(5, 1, false));
            Due.thrown("behind the end", Due.INDEX, () -> x.bySense(5, 41, false));
        });
        Said.so("24", "that which it has, if there is none", () -> {
            moves(Due.row(), Due.row(0), Due.row(0));
            moves(Due.row(A), Due.row(1, 1), Due.row(0, 0));
            moves(Due.row(M), Due.row(1, 1), Due.row(0, 0));
            LetterTables x = Kinds.table();
            Due.write(x, 0, Due.of(40, M));
            Due.is("at the end of a full text", 40, () -> x.bySense(0, 40, true));
            Due.is("at its beginning", 0, () -> x.bySense(0, 0, false));
        });
    }
}
