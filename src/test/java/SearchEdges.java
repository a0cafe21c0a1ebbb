/** The sentences of 'Orders' and 'Patterns', and what the promises 25 to 29 add to them. */
final class SearchEdges {
    private static final int N = LetterTables.NONE;

    private SearchEdges() {
    }

    static void all() {
        units();
        keys();
        keyPlaces();
        orders();
        comparesWrong();
        finds();
        findsPlaces();
        findsWrong();
        patterns();
        patternsWrong();
        sets();
        looks();
        often();
        matches();
    }

    // ---- orders

    private static void key(LetterTables x, String want, int... text) {
        Due.write(x, 0, text);
        Due.is("how many for " + Due.read(x, 0), want.split(" ").length, () -> x.key(0, 0, N));
        Due.same("key of " + Due.read(x, 0), want, Due.key(x, 0, 0));
    }

    private static LetterTables contracted() {
        LetterTables x = new LetterTables();
        x.weigh(0, 1, 10, 1, 1);
        x.weigh(0, 2, 20, 2, 2);
        x.weigh(0, 9, 99, 9, 9);
        x.contract(0, 1, 2, 50, 5, 5);
        x.contract(0, 2, 1, 60, 6, 6);
        x.contract(0, 1, 1, 70, 7, 7);
        return x;
    }

    private static void units() {
        Said.so("Orders", "A text is ordered in a language by its split form: from the left, a contraction that stands"
                + " there, otherwise the letter, gives its three weights.", () -> {
                    LetterTables x = contracted();
                    key(x, "10 0 1 0 1", 1);
                    key(x, "50 10 0 5 1 0 5 1", 1, 2, 1);
                    key(x, "60 20 0 6 2 0 6 2", 2, 1, 2);
                    key(x, "70 10 0 7 1 0 7 1", 1, 1, 1);
                    key(x, "70 20 0 7 2 0 7 2", 1, 1, 2);
                    key(x, "20 20 0 2 2 0 2 2", 2, 2);
                    key(x, "10 20 0 1 2 0 1 2", 1, 3, 2);
                    // By the split form: neither the weights nor the contractions of what splits.
                    x.split(9, 1, 2);
                    x.split(8, 5, 1);
                    x.contract(0, 9, 9, 90, 9, 9);
                    key(x, "50 0 5 0 5", 9);
                    key(x, "50 50 0 5 5 0 5 5", 9, 9);
                    key(x, "50 0 5 0 5", 8, 2);
                    key(x, "70 20 0 7 2 0 7 2", 1, 9);
                });
        Said.so("Orders", "from the left, a contraction that stands there", () -> {
            LetterTables x = contracted();
            Due.write(x, 0, Due.of(40, 1));
            Due.same("20 contractions", "70 ".repeat(20) + "0" + " 7".repeat(20) + " 0" + " 7".repeat(20),
                    Due.key(x, 0, 0));
            Due.write(x, 0, Due.of(39, 1));
            Due.is("19 and a letter", 62, () -> x.key(0, 0, N));
            Due.is("the letter is the last", 10, () -> x.key(0, 0, 19));
            Due.is("none in the other language", 2, () -> x.key(1, 0, N));
        });
    }

    private static void keys() {
        Said.so("Orders", "Its key is the first weights above 0, 0, the second ones above 0, 0, and the third ones above 0.",
                () -> {
                    LetterTables x = new LetterTables();
                    key(x, "0 0");
                    key(x, "0 0", 1, 2, 3);
                    x.weigh(0, 1, 1, 0, 0);
                    x.weigh(0, 2, 0, 1, 0);
                    x.weigh(0, 3, 0, 0, 1);
                    x.weigh(0, 4, 99, 9, 9);
                    key(x, "1 0 0", 1);
                    key(x, "0 1 0", 2);
                    key(x, "0 0 1", 3);
                    key(x, "99 0 9 0 9", 4);
                    key(x, "1 99 0 1 9 0 1 9", 1, 2, 3, 4);
                    key(x, "99 1 0 9 1 0 9 1", 4, 3, 2, 1);
                });
        Said.so("26", "Returns a number of the key of a text", () -> {
            LetterTables x = new LetterTables();
            x.split(5, 4, 4);
            x.weigh(0, 4, 99, 9, 8);
            Due.write(x, 0, Due.of(40, 5));
            Due.is("the first of the longest one", 99, () -> x.key(0, 0, 0));
            Due.is("the last first weight", 99, () -> x.key(0, 0, 79));
            Due.is("0", 0, () -> x.key(0, 0, 80));
            Due.is("the last second weight", 9, () -> x.key(0, 0, 160));
            Due.is("0", 0, () -> x.key(0, 0, 161));
            Due.is("the last", 8, () -> x.key(0, 0, 241));
            Due.thrown("behind it", Due.INDEX, () -> x.key(0, 0, 242));
            Due.thrown("-2", Due.INDEX, () -> x.key(0, 0, -2));
        });
    }

    private static void keyPlaces() {
        Said.so("26", "with NONE as its place how many it has", () -> {
            LetterTables x = new LetterTables();
            x.split(5, 4, 4);
            x.weigh(0, 4, 99, 9, 8);
            Due.is("of an empty text", 2, () -> x.key(0, 0, N));
            Due.write(x, 0, Due.of(40, 5));
            Due.is("of the longest one", 242, () -> x.key(0, 0, N));
            Due.is("in the other language", 2, () -> x.key(1, 0, N));
        });
        Said.so("26", "Throws IllegalStateException if it cannot be looked at so", () -> {
            LetterTables x = new LetterTables();
            x.split(5, 4, 4);
            x.split(6, 5, 4);
            Due.write(x, 0, Due.of(40, 5, 6));
            for (int place : Due.row(N, 0, 241, 242, 243, -2, Integer.MAX_VALUE, Integer.MIN_VALUE)) {
                Due.thrown("at " + place, Due.STATE, () -> x.key(1, 0, place));
            }
            Due.thrown("no language ahead of that", Due.INDEX, () -> x.key(2, 0, 0));
            Due.thrown("no slot ahead of that", Due.INDEX, () -> x.key(0, 6, 0));
            Due.is("another one can", 2, () -> x.key(0, 1, N));
        });
        Said.so("26", "Throws IndexOutOfBoundsException if there is no such language, slot or place", () -> {
            LetterTables x = new LetterTables();
            Due.is("the first 0", 0, () -> x.key(0, 5, 0));
            Due.is("the second 0", 0, () -> x.key(1, 5, 1));
            Due.thrown("no third", Due.INDEX, () -> x.key(0, 5, 2));
        });
    }

    private static void compare(LetterTables x, int want, int[] one, int[] other) {
        Due.write(x, 2, one);
        Due.write(x, 3, other);
        String what = Due.read(x, 2) + " and " + Due.read(x, 3);
        Due.is(what, want, () -> x.compare(0, 2, 3));
        Due.is(what + ", turned", -want, () -> x.compare(0, 3, 2));
        Due.is(what + ", itself", 0, () -> x.compare(0, 3, 3));
    }

    private static LetterTables weighed() {
        LetterTables x = new LetterTables();
        x.weigh(0, 1, 10, 0, 1);
        x.weigh(0, 2, 10, 0, 2);
        x.weigh(0, 3, 10, 9, 0);
        x.weigh(0, 4, 99, 0, 0);
        x.weigh(0, 5, 1, 9, 9);
        x.weigh(0, 20, 0, 5, 0);
        x.weigh(0, 21, 0, 0, 7);
        return x;
    }

    private static void orders() {
        Said.so("Orders", "Keys are ordered number by number", () -> {
            LetterTables x = weighed();
            compare(x, -1, Due.row(1), Due.row(2));
            compare(x, -1, Due.row(1), Due.row(3));
            compare(x, -1, Due.row(2), Due.row(3));
            compare(x, -1, Due.row(3), Due.row(4));
            compare(x, -1, Due.row(5), Due.row(1));
            compare(x, -1, Due.row(1), Due.row(1, 20));
            compare(x, -1, Due.row(20), Due.row(1));
            compare(x, -1, Due.row(21), Due.row(20));
            compare(x, -1, Due.row(5, 5), Due.row(4));
            // The first weights go ahead of all second ones, and a key that ends there ahead of all that go on.
            compare(x, -1, Due.row(3), Due.row(1, 1));
            compare(x, -1, Due.row(1, 3), Due.row(1, 4));
            compare(x, 1, Due.row(3, 1), Due.row(1, 20));
            compare(x, 0, Due.row(1, 50), Due.row(51, 1));
            compare(x, -1, Due.of(40, 1), Due.of(40, 1, 2));
            compare(x, 1, Due.of(40, 1), Due.of(39, 1));
        });
        Said.so("Orders", "one that another one begins with ahead of it", () -> {
            LetterTables x = weighed();
            compare(x, -1, Due.row(), Due.row(21));
            compare(x, -1, Due.row(1), Due.row(1, 21));
            compare(x, -1, Due.row(1, 21), Due.row(1, 21, 21));
            compare(x, 0, Due.row(), Due.row(50));
        });
        Said.so("25", "Compares two texts, weight by weight, without keys.", () -> {
            LetterTables x = weighed();
            // Weights of 1 are above 0, and those of 0 are none.
            for (int i = 0; i < 3; i++) {
                x.weigh(0, 30 + i, i == 0 ? 1 : 0, i == 1 ? 1 : 0, i == 2 ? 1 : 0);
                compare(x, -1, Due.row(), Due.row(30 + i));
                compare(x, -1, Due.row(30 + i), Due.row(30 + i, 30 + i));
                compare(x, 0, Due.row(30 + i), Due.row(50, 30 + i, 50));
            }
            x.split(9, 4, 4);
            Due.write(x, 0, Due.of(40, 9));
            Due.write(x, 1, Due.of(40, 9, 4));
            Due.is("80 and 79", 1, () -> x.compare(0, 0, 1));
            Due.is("79 and 80", -1, () -> x.compare(0, 1, 0));
            Due.is("80 and 80", 0, () -> x.compare(0, 0, 0));
            Due.is("in the other language", 0, () -> x.compare(1, 0, 1));
        });
        Said.so("25", "Returns -1, 0 or 1.", () -> {
            LetterTables x = weighed();
            compare(x, -1, Due.row(5), Due.row(4));
            compare(x, -1, Due.row(), Due.of(40, 4));
            compare(x, 0, Due.row(), Due.row());
        });
    }

    private static void comparesWrong() {
        Said.so("25", "Throws IllegalStateException if one cannot be looked at so", () -> {
            LetterTables x = weighed();
            x.split(9, 4, 4);
            x.split(10, 9, 4);
            Due.write(x, 0, Due.of(40, 9, 10));
            Due.thrown("the one", Due.STATE, () -> x.compare(0, 0, 1));
            Due.thrown("the other", Due.STATE, () -> x.compare(0, 1, 0));
            Due.thrown("both", Due.STATE, () -> x.compare(1, 0, 0));
            Due.thrown("no language ahead of that", Due.INDEX, () -> x.compare(2, 0, 0));
            Due.thrown("no slot ahead of that", Due.INDEX, () -> x.compare(0, 0, 6));
            Due.thrown("no slot ahead of that", Due.INDEX, () -> x.compare(0, -1, 0));
        });
    }

    // ---- find

    private static LetterTables foldable() {
        LetterTables x = new LetterTables();
        x.letter(20, 1, LetterTables.NEUTRAL, LetterTables.MARK, 20);
        x.letter(21, 2, LetterTables.NEUTRAL, LetterTables.OTHER, 21);
        x.letter(30, 0, LetterTables.NEUTRAL, LetterTables.JOINER, 30);
        x.capital(1, 2, 3);
        x.capital(4, 2, N);
        x.capital(5, 3, N);
        return x;
    }

    private static void find(int want, int from, int[] wanted, int... text) {
        LetterTables x = foldable();
        Due.write(x, 0, text);
        Due.write(x, 1, wanted);
        Due.is(Due.read(x, 1) + " in " + Due.read(x, 0) + " from " + from, want, () -> x.find(0, 1, from));
    }

    private static void finds() {
        Said.so("27", "the first place from one on at which a cluster begins", () -> {
            find(1, 0, Due.row(7), 7, 7);
            find(102, 1, Due.row(7), 7, 7);
            find(N, 2, Due.row(7), 7, 7);
            find(2, 0, Due.row(7), 7, 20, 8);
            find(N, 1, Due.row(7), 7, 20, 8);
            find(304, 1, Due.row(7), 7, 20, 8, 7);
            find(N, 0, Due.row(7), 30, 7);
            find(2, 0, Due.row(30, 7), 30, 7);
            find(N, 1, Due.row(30, 7), 30, 7);
            find(204, 0, Due.row(20, 7), 8, 20, 7, 20);
            find(N, 0, Due.row(8), 7, 7);
        });
        Said.so("27", "and the least end of a cluster behind it, so that what is between, by itself, is alike, folded", () -> {
            find(1, 0, Due.row(7), 7, 21, 21);
            find(2, 0, Due.row(7), 7, 20, 21);
            find(2, 0, Due.row(7), 21, 7, 21);
            find(102, 1, Due.row(7), 21, 7, 21);
            find(N, 0, Due.row(30), 30, 7);
            find(2, 0, Due.row(1), 4, 5);
            find(1, 0, Due.row(4, 5), 1);
            find(N, 0, Due.row(2), 1, 1);
            find(N, 0, Due.row(3), 1, 1);
            find(102, 0, Due.row(4), 1, 2);
            find(205, 0, Due.row(7, 8), 7, 9, 7, 21, 8, 21);
        });
        Said.so("27", "a text that is empty, folded, is not found", () -> {
            find(N, 0, Due.row());
            find(N, 0, Due.row(), 7);
            find(N, 0, Due.row(20), 20);
            find(N, 0, Due.row(21, 21), 7, 21, 21);
            find(N, 0, Due.row(7));
            find(N, 40, Due.row(), Due.of(40, 7));
        });
    }

    private static void findsPlaces() {
        Said.so("27", "from: 0 to 40", () -> {
            int[] full = Due.of(40, 6, 7);
            find(3940, 0, Due.row(7), full);
            find(3940, 39, Due.row(7), full);
            find(N, 40, Due.row(7), full);
            find(N, 40, Due.row(7), 7);
            find(N, 1, Due.row(7), 7);
            LetterTables x = foldable();
            Due.thrown("41", Due.ARGUMENT, () -> x.find(0, 1, 41));
            Due.thrown("-1", Due.ARGUMENT, () -> x.find(0, 1, -1));
            Due.thrown("no slot, 41", Due.INDEX, () -> x.find(0, 6, 41));
        });
        Said.so("27", "Returns 100 times the place, and the end", () -> {
            find(1, 0, Due.row(6), 6);
            find(40, 0, Due.of(40, 6), Due.of(40, 6));
            int[] text = Due.of(40, 6);
            text[0] = 7;
            find(140, 0, Due.of(39, 6), text);
            find(1, 0, Due.row(7), text);
            find(3940, 39, Due.row(6), text);
        });
        Said.so("27", "NONE if there are none.", () -> {
            find(N, 0, Due.row(7), 8);
            find(N, 0, Due.row(7, 7), 7);
            find(N, 0, Due.row(7, 8), 7, 9, 8);
            find(N, 0, Due.of(40, 6), Due.of(39, 6));
        });
    }

    private static void findsWrong() {
        Said.so("27", "Throws IllegalStateException if one cannot be looked at so", () -> {
            LetterTables x = foldable();
            x.split(50, 49, 49);
            x.split(51, 50, 49);
            Due.write(x, 0, Due.of(40, 50, 51));
            Due.write(x, 1, 49);
            Due.thrown("the text", Due.STATE, () -> x.find(0, 1, 0));
            Due.thrown("the wanted one", Due.STATE, () -> x.find(1, 0, 0));
            Due.thrown("the text, not even for nothing", Due.STATE, () -> x.find(0, 2, 0));
            Due.thrown("the wanted one, not even in nothing", Due.STATE, () -> x.find(2, 0, 0));
            Due.thrown("from out of range ahead of that", Due.ARGUMENT, () -> x.find(0, 1, 41));
            Due.thrown("no slot ahead of that", Due.INDEX, () -> x.find(6, 0, 0));
            Due.write(x, 0, Due.of(40, 50));
            Due.is("80 can be looked at", N, () -> x.find(0, 1, 0));
            Due.is("80 in 80", 40, () -> x.find(0, 0, 0));
        });
    }

    // ---- patterns

    private static void pattern(LetterTables x, String pattern, int sets) {
        Due.feed(x, pattern);
        Due.is("'" + pattern + "'", sets, x::pattern);
    }

    private static void patterns() {
        Said.so("28", "Returns how many sets it has that are no backward looks.", () -> {
            LetterTables x = new LetterTables();
            pattern(x, "", 0);
            pattern(x, "L", 1);
            pattern(x, "<LL", 1);
            pattern(x, "<!L!L*", 1);
            pattern(x, "<#00#95?", 1);
            pattern(x, ".LMBDSC#00", 8);
            pattern(x, "<.L<.L<.L<.L<.L<.L<.L<.L", 8);
        });
        Said.so("Patterns", "with at most 8 sets that are no backward looks", () -> {
            LetterTables x = new LetterTables();
            pattern(x, "........", 8);
            pattern(x, ".*.*.*.*.*.*.*.*", 8);
            pattern(x, "<!#00!#00*".repeat(8), 8);
            for (String nine : new String[] {".........", "<!#00!#00*".repeat(9), "L?L?L?L?L?L?L?L?L?"}) {
                Due.feed(x, nine);
                Due.thrown(nine, Due.STATE, x::pattern);
            }
            pattern(x, "<..", 1);
        });
        Said.so("28", "Takes the tape as the pattern.", () -> {
            LetterTables x = new LetterTables();
            Due.write(x, 0, 7);
            pattern(x, "#07", 1);
            Due.is("it fits", 1, () -> x.match(0, 0));
            pattern(x, "", 0);
            Due.is("an empty tape is the empty pattern", 0, () -> x.match(0, 0));
            pattern(x, "#08", 1);
            Due.is("another one instead", N, () -> x.match(0, 0));
        });
    }

    private static void patternsWrong() {
        Said.so("28", "Throws IllegalStateException if it is none", () -> {
            String[] all = {"*", "?", "L**", "L*?", "L??", "<", "<L", "<L*", "<<LL", "<L<L", "!", "!!L", "L!", "!*", "!<LL",
                "<!", "l", "A", " ", "L L", "(L)", "0", "L\u0000", "\u00ff", "{", "|"};
            LetterTables x = new LetterTables();
            Due.write(x, 0, 7, 8);
            pattern(x, "#07", 1);
            for (String one : all) {
                Due.feed(x, one);
                Due.thrown("'" + one + "'", Due.STATE, x::pattern);
                Due.is("the tape is used up", 1, () -> x.feed('.', 1));
                x.decode(5);
            }
            Due.is("the last pattern stays", 1, () -> x.match(0, 0));
            Due.is("and not another one", N, () -> x.match(0, 1));
        });
        Said.so("Patterns", "or one letter, 00 to 95", () -> {
            LetterTables x = new LetterTables();
            for (int letter = 0; letter < 96; letter++) {
                LetterTables y = new LetterTables();
                Due.write(y, 0, letter, (letter + 1) % 96);
                pattern(y, "#" + letter / 10 + letter % 10, 1);
                Due.is("letter " + letter, 1, () -> y.match(0, 0));
                Due.is("not the next one", N, () -> y.match(0, 1));
            }
            String[] wrong = {"#", "#0", "#9", "#96", "#97", "#99", "#1L", "#L1", "#-1", "#:0", "#0:", "#/0", "#0/", "#005",
                "!#96", "<#96L"};
            for (String one : wrong) {
                Due.feed(x, one);
                Due.thrown("'" + one + "'", Due.STATE, x::pattern);
            }
        });
    }

    /** Letters 0 to 6 of the kinds 0 to 6, some capital forms, and a pattern. */
    private static LetterTables patterned(String pattern) {
        LetterTables x = new LetterTables();
        for (int kind = 0; kind <= 6; kind++) {
            x.letter(kind, 0, LetterTables.NEUTRAL, kind, kind);
        }
        x.capital(50, 51, 52);
        x.capital(95, 0, 94);
        x.capital(53, 53, N);
        x.capital(54, 54, 55);
        Due.feed(x, pattern);
        x.pattern();
        return x;
    }

    private static void match(String pattern, int want, int place, int... text) {
        LetterTables x = patterned(pattern);
        Due.write(x, 0, text);
        Due.is("'" + pattern + "' in " + Due.read(x, 0) + " at " + place, want, () -> x.match(0, place));
    }

    private static void sets() {
        Said.so("Patterns", "all letters, those of the kind LETTER, MARK, BLANK, DIGIT or SEAMLESS", () -> {
            String signs = "LMBDS";
            int[] kinds = {1, 2, 3, 4, 6};
            for (int letter : Due.row(0, 1, 2, 3, 4, 5, 6, 7, 95)) {
                match(".", 1, 0, letter);
                for (int i = 0; i < kinds.length; i++) {
                    match(signs.substring(i, i + 1), letter == kinds[i] ? 1 : N, 0, letter);
                }
            }
        });
        Said.so("Patterns", "those that are in the capital form of some other one", () -> {
            for (int letter : Due.row(51, 52, 55, 0, 94)) {
                match("C", 1, 0, letter);
            }
            for (int letter : Due.row(50, 53, 54, 95, 1, 56)) {
                match("C", N, 0, letter);
            }
            LetterTables x = patterned("C");
            Due.write(x, 0, 51);
            x.capital(50, N, N);
            Due.is("no more", N, () -> x.match(0, 0));
            x.capital(51, 51, 51);
            Due.is("its own form", N, () -> x.match(0, 0));
            x.capital(0, 95, 51);
            Due.is("once more", 1, () -> x.match(0, 0));
        });
        Said.so("Patterns", "with ! all others.", () -> {
            match("!.", N, 0, 0);
            match("!.", N, 0, 95);
            match("!#00", N, 0, 0);
            match("!#00", 1, 0, 1);
            match("!#95", N, 0, 95);
            match("!#95", 1, 0, 94);
            match("!C", 1, 0, 50);
            match("!C", N, 0, 51);
            for (int letter = 0; letter < 8; letter++) {
                match("!L", letter == 1 ? N : 1, 0, letter);
                match("!S", letter == 6 ? N : 1, 0, letter);
            }
            match("!L", N, 0);
        });
    }

    private static void looks() {
        Said.so("Patterns", "< asks of the letter ahead of the one that its set takes, which there has to be.", () -> {
            match("<.L", N, 0, 1);
            match("<!LL", N, 0, 1);
            match("<!.L", N, 1, 1, 1);
            match("<.L", 2, 1, 1, 1);
            match("<LM", 2, 1, 1, 2);
            match("<LM", N, 1, 2, 2);
            match("<!LM", 2, 1, 2, 2);
            match("<!LM", N, 1, 1, 2);
            match("L<LM", 2, 0, 1, 2);
            match("L<MM", N, 0, 1, 2);
            match("<#95L", 40, 39, Due.of(40, 95, 1));
            match("<LM", N, 0, 2);
            match("<LM?", 0, 0, 2);
            match("<.L*", 0, 0, 1, 1);
            match("<LM", N, 2, 1, 1);
        });
        Said.so("Patterns", "with < each time", () -> {
            match("<LM*", 2, 1, 1, 2, 2);
            match("<LM*", 1, 1, 1, 1, 2);
            match("<MM*", 1, 1, 1, 2, 2);
            match("M<MM*", 3, 0, 2, 2, 2, 1);
            match("<.L*", 0, 0, 1, 1, 1);
            match("<.L*", 3, 1, 1, 1, 1);
            match(".<!M.*", 3, 0, 1, 1, 2, 1);
            match("<LM?", 2, 1, 1, 2, 2);
            match("<MM?", 1, 1, 1, 2, 2);
        });
    }

    private static void often() {
        Said.so("Patterns", "* any number of times, ? once or not", () -> {
            match("L*", 0, 0);
            match("L*", 0, 0, 2, 1);
            match("L*", 1, 0, 1, 2);
            match("L*", 40, 0, Due.of(40, 1));
            match("L*", 39, 0, Due.of(40, 1, 2));
            match("L?", 0, 0);
            match("L?", 0, 0, 2);
            match("L?", 1, 0, 1);
            match("L?", 1, 0, 1, 1);
            match("L", N, 0);
            match("L", N, 0, 2);
            match("L", 1, 0, 1, 1);
            match("L?L?L?L?L?L?L?L?", 8, 0, Due.of(9, 1));
            match("L?L?L?L?L?L?L?L?", 3, 0, Due.of(3, 1));
            match("L?M*", 0, 0, 3);
            match("L?M*", 2, 0, 2, 2);
            match("L?M*L", 4, 0, 1, 2, 2, 1);
            match("L*L*L*L*L*L*L*L*", 40, 0, Due.of(40, 1));
        });
    }

    private static void matches() {
        Said.so("29", "Matches the pattern from a place on, as far as it can.", () -> {
            match("L*L", 3, 0, 1, 1, 1);
            match("L*L", N, 0, 2);
            match("L?L", 1, 0, 1, 2);
            match("L?L", 2, 0, 1, 1);
            match(".*M", 4, 0, 2, 1, 1, 2, 1);
            match(".*M", 40, 0, Due.of(40, 2));
            match(".*M", 1, 0, 2, 1, 1);
            match("L?M?L?M?", 3, 0, 1, 2, 2);
            match("L?.?M?M?M?", 4, 0, 2, 2, 2, 2);
        });
        Said.so("29", "Returns where it ends", () -> {
            match("", 0, 0);
            match("", 0, 0, 1);
            match("", 1, 1, 1);
            match("L", 2, 1, 1, 1);
            match(".*", 40, 0, Due.of(40, 0));
            match(".*", 40, 39, Due.of(40, 0));
            match(".*", 40, 40, Due.of(40, 0));
            match("........", 40, 32, Due.of(40, 0));
            match("........", N, 33, Due.of(40, 0));
        });
        Said.so("29", "NONE if it does not fit.", () -> {
            match("L", N, 0);
            match("L", N, 1, 1);
            match("LM", N, 0, 1);
            match("LM", N, 0, 1, 1);
            match("L*M", N, 0, Due.of(40, 1));
        });
        Said.so("29", "Throws IllegalStateException if there is no pattern", () -> {
            LetterTables x = new LetterTables();
            Due.write(x, 0, 1);
            Due.thrown("at 0", Due.STATE, () -> x.match(0, 0));
            Due.thrown("at the end", Due.STATE, () -> x.match(0, 1));
            Due.thrown("in an empty text", Due.STATE, () -> x.match(1, 0));
            Due.thrown("no place ahead of that", Due.INDEX, () -> x.match(0, 2));
            Due.thrown("no place ahead of that", Due.INDEX, () -> x.match(0, N));
            Due.thrown("no slot ahead of that", Due.INDEX, () -> x.match(6, 0));
            Due.feed(x, "?");
            Due.thrown("none", Due.STATE, x::pattern);
            Due.thrown("there is still none", Due.STATE, () -> x.match(0, 0));
            Due.is("the empty one is one", 0, x::pattern);
            Due.is("it fits", 0, () -> x.match(0, 0));
        });
    }
}
