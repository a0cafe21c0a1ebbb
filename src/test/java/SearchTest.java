/** Promises 25 to 29, orders and searches, with answers worked out by hand from the document. */
public final class SearchTest {
    private static final int N = LetterTables.NONE;

    public static void main(String[] args) {
        keys();
        keysWrong();
        compares();
        finds();
        findsOn();
        findsFar();
        findsWrong();
        patterns();
        patternsWrong();
        matches();
        matchesFar();
        matchesWrong();
        Due.end();
    }

    private static LetterTables weighed() {
        LetterTables x = new LetterTables();
        x.letter(20, 1, LetterTables.NEUTRAL, LetterTables.MARK, 20);
        x.letter(21, 2, LetterTables.NEUTRAL, LetterTables.MARK, 21);
        x.split(40, 1, 20);
        x.split(41, 40, 21);
        x.weigh(0, 1, 10, 0, 1);
        x.weigh(0, 2, 20, 0, 2);
        x.weigh(0, 3, 30, 0, 0);
        x.weigh(0, 20, 0, 5, 0);
        x.weigh(0, 21, 0, 6, 0);
        x.weigh(0, 40, 99, 9, 9);
        x.contract(0, 1, 2, 15, 0, 3);
        x.contract(0, 20, 21, 0, 0, 7);
        x.weigh(1, 1, 10, 0, 0);
        x.weigh(1, 2, 5, 0, 0);
        return x;
    }

    private static void key(LetterTables x, int language, String want, int... text) {
        Due.write(x, 0, text);
        Due.is("26: how many for " + Due.read(x, 0), want.split(" ").length, () -> x.key(language, 0, N));
        Due.same("26: key of " + Due.read(x, 0), want, Due.key(x, language, 0));
    }

    private static void keys() {
        LetterTables x = weighed();
        key(x, 0, "0 0");
        key(x, 0, "0 0", 50, 51);
        key(x, 0, "10 0 0 1", 1);
        key(x, 0, "30 0 0", 3);
        key(x, 0, "0 5 0", 20);
        key(x, 0, "10 0 5 0 1", 40);
        key(x, 0, "10 0 0 1 7", 41);
        key(x, 0, "10 15 20 0 0 1 3 2", 1, 1, 2, 2);
        key(x, 0, "20 10 0 0 2 1", 2, 1);
        key(x, 0, "10 20 0 5 0 1 2", 1, 20, 2);
        key(x, 0, "10 0 0 1 7", 1, 21, 20);
        key(x, 1, "10 5 0 0", 1, 2);
        key(x, 1, "10 0 0", 41);
        int[] full = new int[40];
        java.util.Arrays.fill(full, 5);
        x.split(5, 4, 4);
        x.weigh(0, 4, 99, 9, 9);
        Due.write(x, 0, full);
        Due.is("26: the longest", 242, () -> x.key(0, 0, N));
        Due.is("26: its last", 9, () -> x.key(0, 0, 241));
        Due.is("26: its first 0", 0, () -> x.key(0, 0, 80));
        Due.thrown("26: behind it", Due.INDEX, () -> x.key(0, 0, 242));
    }

    private static void keysWrong() {
        LetterTables x = weighed();
        Due.thrown("26: language", Due.INDEX, () -> x.key(2, 0, N));
        Due.thrown("26: language", Due.INDEX, () -> x.key(-1, 0, N));
        Due.thrown("26: slot", Due.INDEX, () -> x.key(0, 6, N));
        Due.thrown("26: place", Due.INDEX, () -> x.key(0, 0, 2));
        Due.thrown("26: place -2", Due.INDEX, () -> x.key(0, 0, -2));
        for (int i = 61; i < 70; i++) {
            x.split(i, i - 1, i - 1);
        }
        Due.write(x, 1, 69);
        Due.thrown("26: can't be looked at", Due.STATE, () -> x.key(0, 1, N));
        Due.thrown("26: ahead of a place that there is not", Due.STATE, () -> x.key(0, 1, 500));
        Due.thrown("26: ahead of a place that there is not", Due.STATE, () -> x.key(0, 1, -2));
        Due.thrown("26: behind a language that there is not", Due.INDEX, () -> x.key(2, 1, 0));
        Due.thrown("25: can't be looked at", Due.STATE, () -> x.compare(0, 1, 0));
        Due.thrown("25: the other can't", Due.STATE, () -> x.compare(0, 0, 1));
        Due.thrown("25: language", Due.INDEX, () -> x.compare(2, 1, 0));
        Due.thrown("25: language", Due.INDEX, () -> x.compare(-1, 0, 0));
        Due.thrown("25: slot", Due.INDEX, () -> x.compare(0, 6, 1));
        Due.thrown("25: other", Due.INDEX, () -> x.compare(0, 1, -1));
    }

    private static void compare(LetterTables x, int language, int want, int[] one, int[] other) {
        Due.write(x, 2, one);
        Due.write(x, 3, other);
        String what = "25: " + Due.read(x, 2) + " and " + Due.read(x, 3);
        Due.is(what, want, () -> x.compare(language, 2, 3));
        Due.is(what + ", turned", -want, () -> x.compare(language, 3, 2));
        Due.is(what + ", itself", 0, () -> x.compare(language, 2, 2));
    }

    private static void compares() {
        LetterTables x = weighed();
        compare(x, 0, 0, Due.row(), Due.row());
        compare(x, 0, 0, Due.row(), Due.row(50));
        compare(x, 0, -1, Due.row(), Due.row(20));
        compare(x, 0, -1, Due.row(20), Due.row(1));
        compare(x, 0, -1, Due.row(1), Due.row(2));
        compare(x, 1, 1, Due.row(1), Due.row(2));
        compare(x, 0, -1, Due.row(1), Due.row(1, 1));
        compare(x, 0, -1, Due.row(1, 20), Due.row(1, 1));
        compare(x, 0, -1, Due.row(1), Due.row(1, 20));
        compare(x, 0, -1, Due.row(1, 20), Due.row(1, 21));
        compare(x, 0, 0, Due.row(40), Due.row(1, 20));
        compare(x, 0, 0, Due.row(40, 50), Due.row(51, 1, 20));
        compare(x, 0, 1, Due.row(1, 2), Due.row(1, 1));
        compare(x, 0, -1, Due.row(1, 2), Due.row(2));
        compare(x, 0, 1, Due.row(3, 1), Due.row(2, 3));
        // The third ones alone, and one row of them that another one begins with.
        compare(x, 0, -1, Due.row(1), Due.row(41));
        compare(x, 0, 0, Due.row(1, 20, 21), Due.row(41));
        compare(x, 0, -1, Due.row(1, 20), Due.row(1, 20, 20));
        x.weigh(0, 4, 10, 0, 2);
        compare(x, 0, -1, Due.row(1, 3), Due.row(4, 3));
        compare(x, 0, 1, Due.row(4), Due.row(1));
        x.weigh(0, 6, 10, 3, 0);
        compare(x, 0, -1, Due.row(4), Due.row(6));
        compare(x, 0, 0, Due.row(50, 51, 52), Due.row(53));
    }

    private static LetterTables foldable() {
        LetterTables x = new LetterTables();
        x.letter(20, 1, LetterTables.NEUTRAL, LetterTables.MARK, 20);
        x.letter(21, 2, LetterTables.NEUTRAL, LetterTables.OTHER, 21);
        x.letter(30, 0, LetterTables.NEUTRAL, LetterTables.JOINER, 30);
        x.split(40, 1, 20);
        x.capital(1, 2, 3);
        x.capital(4, 2, N);
        x.capital(5, 3, N);
        return x;
    }

    private static void find(LetterTables x, int want, int from, int[] wanted, int... text) {
        Due.write(x, 0, text);
        Due.write(x, 1, wanted);
        Due.is("27: " + Due.read(x, 1) + " in " + Due.read(x, 0) + " from " + from, want, () -> x.find(0, 1, from));
    }

    private static void finds() {
        LetterTables x = foldable();
        find(x, N, 0, Due.row());
        find(x, N, 0, Due.row(), 7, 7);
        find(x, N, 0, Due.row(20), 7, 20);
        find(x, N, 0, Due.row(7));
        find(x, 1, 0, Due.row(7), 7);
        find(x, 102, 0, Due.row(7), 8, 7, 7);
        find(x, 102, 1, Due.row(7), 7, 7, 7);
        find(x, 203, 2, Due.row(7), 7, 7, 7);
        find(x, N, 3, Due.row(7), 7, 7, 7);
        find(x, N, 40, Due.row(7), 7, 7, 7);
        find(x, 103, 0, Due.row(7, 8), 7, 7, 8, 8);
        find(x, N, 0, Due.row(7, 8), 7, 9, 8, 7);
        find(x, N, 0, Due.row(7, 8, 9), 7, 8);
        // Folded: 1 is like 2 3, and like 4 5; a mark goes with its letter.
        find(x, 2, 0, Due.row(1), 4, 5);
        find(x, 1, 0, Due.row(4, 5), 1);
        find(x, N, 0, Due.row(2), 1);
        find(x, 102, 0, Due.row(2), 1, 4);
        find(x, 2, 0, Due.row(2, 20), 4, 20);
        find(x, 3, 0, Due.row(2), 4, 20, 20);
        find(x, 204, 1, Due.row(2), 4, 20, 4, 20);
        find(x, 204, 0, Due.row(7), 8, 20, 7, 20);
    }

    private static void findsOn() {
        LetterTables x = foldable();
        // What splits is split behind the capitals: 40 stays 1.
        find(x, N, 0, Due.row(1), 40);
        find(x, 1, 0, Due.row(40), 40);
        find(x, 102, 0, Due.row(40, 20), 1, 40);
        // Places at which a cluster begins, ends of clusters.
        find(x, N, 0, Due.row(8), 30, 8);
        find(x, 2, 0, Due.row(30, 8), 30, 8);
        find(x, N, 0, Due.row(30), 30, 8);
        find(x, 204, 0, Due.row(30, 8), 8, 8, 30, 8);
        // A cluster of which nothing is left: the first place, the least end.
        find(x, 2, 0, Due.row(7), 21, 7, 21);
        find(x, 102, 1, Due.row(7), 21, 7, 21);
        find(x, 205, 0, Due.row(7, 8), 7, 9, 7, 21, 8, 21);
    }

    private static void findsFar() {
        LetterTables x = foldable();
        int[] full = new int[40];
        full[39] = 7;
        find(x, 3940, 0, Due.row(7), full);
        find(x, 3940, 39, Due.row(7), full);
        find(x, N, 40, Due.row(7), full);
        find(x, 40, 0, full, full);
    }

    private static void findsWrong() {
        LetterTables x = foldable();
        Due.thrown("27: slot", Due.INDEX, () -> x.find(6, 0, 41));
        Due.thrown("27: wanted", Due.INDEX, () -> x.find(0, -1, 0));
        Due.thrown("27: from 41", Due.ARGUMENT, () -> x.find(0, 1, 41));
        Due.thrown("27: from -1", Due.ARGUMENT, () -> x.find(0, 1, -1));
        for (int i = 61; i < 70; i++) {
            x.split(i, i - 1, i - 1);
        }
        Due.write(x, 0, 69);
        Due.thrown("27: can't be looked at", Due.STATE, () -> x.find(0, 1, 0));
        Due.thrown("27: not even behind its end", Due.STATE, () -> x.find(0, 1, 40));
        Due.thrown("27: the wanted one can't", Due.STATE, () -> x.find(1, 0, 0));
        Due.thrown("27: from ahead of that", Due.ARGUMENT, () -> x.find(0, 1, 41));
        // Each part by itself can be looked at, but not the text.
        int[] full = new int[40];
        x.capital(0, 66, N);
        Due.write(x, 2, 0);
        Due.write(x, 3, full);
        Due.is("27: it can", 1, () -> x.find(2, 2, 0));
        Due.thrown("27: the text can't", Due.STATE, () -> x.find(3, 2, 0));
    }

    private static void patterns() {
        LetterTables x = new LetterTables();
        String[] all = {"", ".", "L", "M", "B", "D", "S", "C", "#00", "#95", "!.", "!#07", "L*", "L?", "<LM", "<!L!M*",
            "<#00#01?", "........", "<.L<.L<.L<.L<.L<.L<.L<.L", "#11#22#33*#44?",
            "L*M*B*D*S*C*.*#01*"};
        int[] sets = {0, 1, 1, 1, 1, 1, 1, 1, 1, 1, 1, 1, 1, 1, 1, 1, 1, 8, 8, 4, 8};
        for (int i = 0; i < all.length; i++) {
            int at = i;
            Due.feed(x, all[i]);
            Due.is("28: " + all[i], sets[at], x::pattern);
            Due.is("28: the tape is used up", 1, () -> x.feed('L', 1));
            Due.is("28: L", 1, x::pattern);
        }
    }

    private static void patternsWrong() {
        LetterTables x = new LetterTables();
        String[] all = {"*", "?", "L**", "L*?", "<", "<L", "<L*", "<<LL", "!", "!!L", "L!", "#", "#1", "#1L", "#96", "#:0",
            "#0/", "l", "A", " ", "L L", "(L)", ".........", "L#", "#001", "<L!", "!<LL", "L\u0000", "\u00ff"};
        Due.feed(x, "L");
        x.pattern();
        x.letter(1, 0, LetterTables.NEUTRAL, LetterTables.LETTER, 1);
        Due.write(x, 0, 1, 1);
        for (String one : all) {
            Due.feed(x, one);
            Due.thrown("28: " + one, Due.STATE, x::pattern);
            Due.is("28: the tape is used up", 0, () -> x.decode(5));
            Due.is("28: none of it is left", 0, () -> x.at(5, N));
            Due.is("29: the one ahead stays", 1, () -> x.match(0, 0));
        }
    }

    private static LetterTables patterned(String pattern) {
        LetterTables x = new LetterTables();
        int[] kinds = {LetterTables.OTHER, LetterTables.LETTER, LetterTables.MARK, LetterTables.BLANK,
            LetterTables.DIGIT, LetterTables.JOINER, LetterTables.SEAMLESS};
        for (int kind : kinds) {
            x.letter(kind, 0, LetterTables.NEUTRAL, kind, kind);
        }
        x.capital(50, 51, 52);
        x.capital(0, 60, N);
        x.capital(95, 61, 62);
        x.capital(53, 53, N);
        x.capital(54, 54, 55);
        Due.feed(x, pattern);
        x.pattern();
        return x;
    }

    private static void match(String pattern, int want, int place, int... text) {
        LetterTables x = patterned(pattern);
        Due.write(x, 0, text);
        Due.is("29: " + pattern + " in " + Due.read(x, 0) + " at " + place, want, () -> x.match(0, place));
    }

    private static void matches() {
        String signs = "LMBDS";
        int[] kinds = {1, 2, 3, 4, 6};
        for (int i = 0; i < 5; i++) {
            for (int letter = 0; letter < 8; letter++) {
                boolean isIn = letter == kinds[i];
                match("" + signs.charAt(i), isIn ? 1 : N, 0, letter);
                match("!" + signs.charAt(i), isIn ? N : 1, 0, letter);
            }
        }
        match(".", 1, 0, 95);
        match("!.", N, 0, 95);
        match("#95", 1, 0, 95);
        match("#95", N, 0, 94);
        match("!#95", 1, 0, 94);
        match("!#95", N, 0, 95);
        match("C", N, 0, 50);
        match("C", 1, 0, 51);
        match("C", 1, 0, 52);
        match("CCC", 3, 0, 60, 61, 62);
        match("C", N, 0, 53);
        match("C", N, 0, 54);
        match("C", 1, 0, 55);
        match("!C", 1, 0, 53);
        match("!C", N, 0, 55);
        match("", 0, 0);
        match("", 2, 2, 1, 1);
        match("L", N, 0);
        match("L", N, 1, 1);
        match("L", 1, 0, 1, 1);
        match("L", 2, 1, 1, 1);
        match("LM", 2, 0, 1, 2);
        match("LM", N, 0, 1, 1);
        match("L?", 0, 0, 2);
        match("L?", 1, 0, 1, 1);
        match("L*", 0, 0, 2, 1);
        match("L*", 2, 0, 1, 1, 2);
        match("L*", 2, 2, 1, 1);
        match("!L*", 3, 0, 2, 3, 4, 1);
    }

    private static void matchesFar() {
        // As far as it can: not what the first way takes.
        match("L*L", 3, 0, 1, 1, 1);
        match("L?L", 1, 0, 1, 2);
        match("L*#01#02?", 3, 0, 1, 1, 2);
        match("#01?#01?#02?#01#03?", 4, 0, 1, 2, 1, 3);
        match(".*L", 4, 0, 2, 1, 2, 1, 2);
        match(".*L.*M?", 5, 0, 2, 1, 2, 1, 2);
        match("#01?.?#02?#02?#02?#02?", 5, 0, 2, 2, 2, 2, 2);
        match("L*M*L*M*", 6, 0, 1, 2, 1, 2, 2, 2, 1);
        // Looking back: the letter ahead has to be there, and may be ahead of the place.
        match("<.L", N, 0, 1);
        match("<.L", 2, 1, 1, 1);
        match("<!.L", N, 1, 1, 1);
        match("<LM", 2, 1, 1, 2);
        match("<LM", N, 1, 2, 2);
        match("<!LM", 2, 1, 2, 2);
        match("L<LM", 2, 0, 1, 2);
        match("<LM?", 0, 0, 2);
        match("<LM*", 2, 1, 1, 2, 2);
        match("<MM*", 1, 1, 1, 2, 2);
        match("M<MM*", 3, 0, 2, 2, 2, 1);
        match(".*<D!D", 3, 0, 1, 4, 1, 4, 4);
        match("<#00.*", 3, 1, 0, 0, 5, 0);
        int[] full = new int[40];
        match(".*", 40, 0, full);
        match(".*.*.*.*.*.*.*.", 40, 0, full);
        match(".*.*.*.*.*.*.*#95", N, 0, full);
        match(".*", 40, 40, full);
    }

    private static void matchesWrong() {
        LetterTables x = new LetterTables();
        Due.write(x, 0, 1);
        Due.thrown("29: slot ahead of no pattern", Due.INDEX, () -> x.match(6, 0));
        Due.thrown("29: place ahead of no pattern", Due.INDEX, () -> x.match(0, 2));
        Due.thrown("29: no pattern", Due.STATE, () -> x.match(0, 1));
        Due.feed(x, "#");
        Due.thrown("28: none", Due.STATE, x::pattern);
        Due.thrown("29: still no pattern", Due.STATE, () -> x.match(0, 0));
        Due.feed(x, "C");
        x.pattern();
        Due.thrown("29: slot", Due.INDEX, () -> x.match(-1, 0));
        Due.thrown("29: place NONE", Due.INDEX, () -> x.match(0, N));
        Due.thrown("29: place 2", Due.INDEX, () -> x.match(0, 2));
        Due.is("29: the end", N, () -> x.match(0, 1));
        Due.is("29: by the tables of now", N, () -> x.match(0, 0));
        x.capital(2, 3, 1);
        Due.is("29: by the tables of now", 1, () -> x.match(0, 0));
    }
}
