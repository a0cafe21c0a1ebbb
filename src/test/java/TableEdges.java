/** The sentences of 'Tables', and what the promises 3 to 13 add to them. */
final class TableEdges {
    private static final int N = LetterTables.NONE;
    private static final int L = Directed.L, R = Directed.R;

    private TableEdges() {
    }

    static void all() {
        joiningClasses();
        directions();
        kinds();
        likes();
        splits();
        capitals();
        partners();
        weights();
        contractions();
        plurals();
        dictionary();
        rules();
        versions();
    }

    private static void form(String what, LetterTables x, int form, String want, int... text) {
        Due.write(x, 0, text);
        Due.is(what + ", size", want.isEmpty() ? 0 : want.split(" ").length, () -> x.form(0, form, 1));
        Due.same(what, want, Due.read(x, 1));
    }

    private static void joins(LetterTables x, int letter, int joins) {
        x.letter(letter, joins, LetterTables.NEUTRAL, LetterTables.OTHER, letter);
    }

    private static void joiningClasses() {
        Said.so("Tables", "A letter has a joining class, 0 to 9, 0 at first", () -> {
            LetterTables x = new LetterTables();
            joins(x, 21, 1);
            form("at first it is not exchanged", x, 0, "20 21", 20, 21);
            form("nor goes a mark past it", x, 0, "20 21 20 21", 20, 21, 20, 21);
            form("nor is it left out", x, 2, "20", 20, 21);
            for (int joins = 0; joins < 9; joins++) {
                joins(x, 30, joins);
                joins(x, 31, joins + 1);
                form("class " + joins + " behind the next one", x, 0, joins == 0 ? "31 30" : "30 31", 31, 30);
                form("and folded", x, 2, joins == 0 ? "30" : "", 31, 30);
            }
            Due.thrown("10", Due.ARGUMENT, Due.quiet(() -> joins(x, 31, 10)));
            Due.thrown("-1", Due.ARGUMENT, Due.quiet(() -> joins(x, 31, -1)));
            form("still 9", x, 0, "30 31", 31, 30);
        });
        Said.so("3", "Tells of a letter.", () -> {
            LetterTables x = new LetterTables();
            x.letter(95, 9, LetterTables.POP_ISOLATE, LetterTables.SEAMLESS, 0);
            x.letter(0, 0, LetterTables.LEFT, LetterTables.OTHER, 95);
            form("the last and the first letter", x, 3, "0 95", 95, 0);
            x.letter(95, 0, LetterTables.LEFT, LetterTables.OTHER, 95);
            form("all told anew", x, 3, "95 95", 95, 0);
        });
    }

    private static void directions() {
        Said.so("Tables", "ISOLATE_FIRST or POP_ISOLATE, NEUTRAL at first", () -> {
            LetterTables x = new LetterTables();
            x.letter(R, 0, LetterTables.RIGHT, LetterTables.OTHER, R);
            x.partners(40, 41);
            Due.write(x, 0, R, 40, R, 41, 5, R, 5);
            Due.same("at first like what stands on both sides", "1 1 1 1 1 1 0", Due.levels(x, 0, 0));
            // By 0 and by 1: the levels of a letter of each direction, and of a neutral one behind it.
            String[] due = {"0 0", "1 0", "0 0", "0 0", "0 2", "0 1", "0 0", "0 2", "0 1", "0 2", "0 0"};
            String[] byOne = {"2 1", "1 1", "2 1", "1 1", "1 2", "1 3", "1 1", "1 2", "1 3", "1 2", "1 1"};
            Due.write(x, 1, 20, 21);
            for (int direction = 0; direction <= 10; direction++) {
                x.letter(20, 0, direction, LetterTables.OTHER, 20);
                Due.same("direction " + direction, due[direction], Due.levels(x, 1, 0));
                Due.same("direction " + direction + " by 1", byOne[direction], Due.levels(x, 1, 1));
            }
            Due.thrown("11", Due.ARGUMENT, Due.quiet(() -> x.letter(20, 0, 11, 0, 20)));
            Due.thrown("-1", Due.ARGUMENT, Due.quiet(() -> x.letter(20, 0, -1, 0, 20)));
        });
    }

    private static void kinds() {
        Said.so("Tables", "DIGIT, JOINER or SEAMLESS, OTHER at first", () -> {
            String[] sets = {"L", "M", "B", "D", "S"};
            int[] kinds = {LetterTables.LETTER, LetterTables.MARK, LetterTables.BLANK, LetterTables.DIGIT,
                LetterTables.SEAMLESS};
            for (int i = 0; i < sets.length; i++) {
                LetterTables x = new LetterTables();
                Due.feed(x, sets[i]);
                x.pattern();
                Due.write(x, 0, 20);
                Due.is(sets[i] + " at first", N, () -> x.match(0, 0));
                for (int kind = 0; kind <= 6; kind++) {
                    x.letter(20, 0, LetterTables.NEUTRAL, kind, 20);
                    Due.is(sets[i] + " of " + kind, kind == kinds[i] ? 1 : N, () -> x.match(0, 0));
                }
            }
            LetterTables x = new LetterTables();
            Due.write(x, 0, 20, 21);
            Due.is("at first no JOINER", 2, () -> x.breaks(0, 0));
            x.letter(20, 0, LetterTables.NEUTRAL, LetterTables.JOINER, 20);
            Due.is("JOINER", 0, () -> x.breaks(0, 0));
            Due.thrown("7", Due.ARGUMENT, Due.quiet(() -> x.letter(20, 0, 3, 7, 20)));
            Due.thrown("-1", Due.ARGUMENT, Due.quiet(() -> x.letter(20, 0, 3, -1, 20)));
            Due.is("still JOINER", 0, () -> x.breaks(0, 0));
        });
    }

    private static void likes() {
        Said.so("Tables", "a letter that it looks like, itself at first", () -> {
            LetterTables x = new LetterTables();
            form("at first", x, 3, "0 50 95", 0, 50, 95);
            x.letter(50, 0, LetterTables.NEUTRAL, LetterTables.OTHER, 0);
            x.letter(0, 0, LetterTables.NEUTRAL, LetterTables.OTHER, 95);
            form("0 and 95", x, 3, "95 0 95", 0, 50, 95);
            Due.thrown("96", Due.ARGUMENT, Due.quiet(() -> x.letter(50, 0, 3, 0, 96)));
            Due.thrown("-1", Due.ARGUMENT, Due.quiet(() -> x.letter(50, 0, 3, 0, -1)));
            form("as it was", x, 3, "0", 50);
        });
    }

    private static void splits() {
        Said.so("Tables", "perhaps two letters into which it splits, both lesser ones", () -> {
            LetterTables x = new LetterTables();
            form("at first none", x, 0, "95 1 0", 95, 1, 0);
            x.split(1, 0, 0);
            x.split(95, 94, 93);
            form("the least and the greatest", x, 0, "94 93 0 0", 95, 1);
            for (int[] w : new int[][] {{1, 1, 0}, {1, 0, 1}, {95, 95, 0}, {95, 0, 95}, {0, 0, 0}, {50, 51, 0}}) {
                Due.thrown("not lesser", Due.ARGUMENT, Due.quiet(() -> x.split(w[0], w[1], w[2])));
            }
            form("as it was", x, 0, "94 93 0 0 50", 95, 1, 50);
        });
        Said.so("4", "Lets a letter split into two, or not split.", () -> {
            LetterTables x = new LetterTables();
            x.split(5, 4, 3);
            x.split(5, N, N);
            form("not any more", x, 0, "5", 5);
            x.split(0, N, N);
            form("the letter 0 does not split", x, 0, "0", 0);
            Due.thrown("the letter 0 into itself", Due.ARGUMENT, Due.quiet(() -> x.split(0, 0, 0)));
        });
        Said.so("4", "or just one of them is NONE", () -> {
            LetterTables x = new LetterTables();
            x.split(5, 4, 3);
            Due.thrown("one", Due.ARGUMENT, Due.quiet(() -> x.split(5, N, 3)));
            Due.thrown("other", Due.ARGUMENT, Due.quiet(() -> x.split(5, 4, N)));
            Due.thrown("of the letter 0 too", Due.ARGUMENT, Due.quiet(() -> x.split(0, N, 0)));
            form("it splits as told", x, 0, "4 3", 5);
        });
    }

    private static void capitals() {
        Said.so("Tables", "perhaps one or two letters that are its capital form", () -> {
            LetterTables x = new LetterTables();
            form("none at first", x, 2, "0 95", 0, 95);
            x.capital(0, 95, N);
            x.capital(95, 0, 95);
            form("one and two", x, 2, "95 0 95", 0, 95);
            x.capital(0, N, N);
            form("none again", x, 2, "0 0 95", 0, 95);
        });
        Said.so("5", "Gives a letter a capital form, or none.", () -> {
            LetterTables x = new LetterTables();
            x.capital(7, 8, 9);
            x.capital(7, 10, N);
            form("of the last telling nothing is left", x, 2, "10", 7);
            x.capital(7, N, N);
            Due.thrown("none twice is none", Due.INDEX, Due.quiet(() -> x.capital(96, N, N)));
            form("none", x, 2, "7", 7);
        });
        Said.so("5", "or one alone is NONE", () -> {
            LetterTables x = new LetterTables();
            x.capital(7, 8, 9);
            Due.thrown("NONE and 0", Due.ARGUMENT, Due.quiet(() -> x.capital(7, N, 0)));
            Due.thrown("NONE and 95", Due.ARGUMENT, Due.quiet(() -> x.capital(7, N, 95)));
            Due.thrown("NONE and 96", Due.ARGUMENT, Due.quiet(() -> x.capital(7, N, 96)));
            Due.thrown("-2 and NONE", Due.ARGUMENT, Due.quiet(() -> x.capital(7, -2, N)));
            Due.thrown("NONE and -2", Due.ARGUMENT, Due.quiet(() -> x.capital(7, N, -2)));
            form("as it was", x, 2, "8 9", 7);
        });
    }

    private static void partners() {
        Said.so("Tables", "perhaps a partner, of which one opens and the other one closes", () -> {
            LetterTables x = new LetterTables();
            Directed.tell(x);
            Due.write(x, 0, R, 95, R, 1, L);
            Due.write(x, 1, R, 1, R, 95, L);
            Due.same("none at first", "1 1 1 0 0", Due.levels(x, 0, 0));
            x.partners(95, 1);
            Due.same("95 opens, 1 closes", "1 1 1 1 0", Due.levels(x, 0, 0));
            Due.same("1 does not open", "1 1 1 0 0", Due.levels(x, 1, 0));
        });
        Said.so("6", "Makes two letters partners.", () -> {
            LetterTables x = new LetterTables();
            for (int i = 0; i < 96; i += 2) {
                int opening = i;
                Due.is("all letters, two by two", 0, Due.quiet(() -> x.partners(opening, 95 - opening)));
            }
        });
        Said.so("6", "Throws IllegalStateException if both are the same, or one has a partner", () -> {
            LetterTables x = new LetterTables();
            Directed.tell(x);
            Due.thrown("the same", Due.STATE, Due.quiet(() -> x.partners(1, 1)));
            Due.thrown("no letter, both the same", Due.INDEX, Due.quiet(() -> x.partners(96, 96)));
            x.partners(1, 2);
            int[][] wrong = {{1, 2}, {2, 1}, {1, 3}, {3, 1}, {2, 3}, {3, 2}, {1, 1}, {2, 2}};
            for (int[] w : wrong) {
                Due.thrown("one has a partner", Due.STATE, Due.quiet(() -> x.partners(w[0], w[1])));
            }
            Due.thrown("no letter, one has a partner", Due.INDEX, Due.quiet(() -> x.partners(1, 96)));
            Due.thrown("no letter, one has a partner", Due.INDEX, Due.quiet(() -> x.partners(-1, 2)));
            Due.write(x, 0, R, 1, R, 2, L);
            Due.same("as they were", "1 1 1 1 0", Due.levels(x, 0, 0));
            Due.is("3 is still free", 0, Due.quiet(() -> x.partners(4, 3)));
        });
    }

    private static void weights() {
        Said.so("Tables", "In a language it has a first weight, 0 to 99, a second one and a third one, 0 to 9, all 0 at"
                + " first", () -> {
                    LetterTables x = new LetterTables();
                    Due.write(x, 0, 0, 95);
                    Due.same("at first", "0 0", Due.key(x, 0, 0));
                    Due.same("at first", "0 0", Due.key(x, 1, 0));
                    x.weigh(0, 0, 99, 9, 9);
                    x.weigh(0, 95, 1, 1, 1);
                    Due.same("the greatest, and the least above 0", "99 1 0 9 1 0 9 1", Due.key(x, 0, 0));
                    Due.same("the other language", "0 0", Due.key(x, 1, 0));
                    int[][] wrong = {{100, 0, 0}, {-1, 0, 0}, {0, 10, 0}, {0, -1, 0}, {0, 0, 10}, {0, 0, -1}};
                    for (int[] w : wrong) {
                        Due.thrown("beyond", Due.ARGUMENT, Due.quiet(() -> x.weigh(0, 0, w[0], w[1], w[2])));
                    }
                    Due.same("as it was", "99 1 0 9 1 0 9 1", Due.key(x, 0, 0));
                });
        Said.so("7", "Gives a letter weights in a language.", () -> {
            LetterTables x = new LetterTables();
            x.weigh(1, 5, 1, 2, 3);
            x.weigh(1, 5, 0, 0, 4);
            Due.write(x, 0, 5);
            Due.same("the last ones told", "0 0 4", Due.key(x, 1, 0));
            x.weigh(1, 5, 0, 0, 0);
            Due.same("none", "0 0", Due.key(x, 1, 0));
        });
    }

    private static void contractions() {
        Said.so("Tables", "A contraction of a language is two letters with weights of their own", () -> {
            LetterTables x = new LetterTables();
            x.weigh(0, 1, 10, 1, 1);
            x.weigh(0, 2, 20, 2, 2);
            x.contract(0, 1, 2, 99, 9, 9);
            Due.write(x, 0, 1, 2);
            Due.same("both", "99 0 9 0 9", Due.key(x, 0, 0));
            Due.same("not in the other language", "0 0", Due.key(x, 1, 0));
            Due.write(x, 0, 2, 1);
            Due.same("the other way round", "20 10 0 2 1 0 2 1", Due.key(x, 0, 0));
            x.contract(0, 1, 2, 0, 0, 0);
            Due.write(x, 0, 1, 2);
            Due.same("weights of 0", "0 0", Due.key(x, 0, 0));
            Due.is("twice the same letter", 2, () -> x.contract(0, 95, 95, 1, 0, 0));
            Due.is("the letters 0 and 0", 3, () -> x.contract(0, 0, 0, 1, 0, 0));
        });
        Said.so("Tables", "at most 6 are told in each", () -> {
            LetterTables x = new LetterTables();
            for (int i = 1; i <= 6; i++) {
                int count = i;
                Due.is("in 0", count, () -> x.contract(0, count, 0, count, 0, 0));
                Due.is("in 1", count, () -> x.contract(1, count, 0, 10 + count, 0, 0));
            }
            Due.thrown("a seventh in 0", Due.STATE, () -> x.contract(0, 7, 0, 1, 1, 1));
            Due.thrown("a seventh in 1", Due.STATE, () -> x.contract(1, 7, 0, 1, 1, 1));
            Due.write(x, 0, 1, 0, 2, 0, 3, 0, 4, 0, 5, 0, 6, 0, 7, 0);
            Due.same("the six", "1 2 3 4 5 6 0 0", Due.key(x, 0, 0));
            Due.same("the six of 1", "11 12 13 14 15 16 0 0", Due.key(x, 1, 0));
        });
        Said.so("8", "or other weights of one that was told", () -> {
            LetterTables x = new LetterTables();
            Due.is("new", 1, () -> x.contract(0, 1, 2, 5, 0, 0));
            Due.is("told", 1, () -> x.contract(0, 1, 2, 6, 0, 0));
            Due.is("told in 1 it is new", 1, () -> x.contract(1, 1, 2, 7, 0, 0));
            Due.is("half of it is new", 2, () -> x.contract(0, 1, 3, 8, 0, 0));
            Due.is("half of it is new", 3, () -> x.contract(0, 3, 2, 9, 0, 0));
            Due.is("the other way round is new", 4, () -> x.contract(0, 2, 1, 10, 0, 0));
            Due.write(x, 0, 1, 2, 1, 3, 3, 2, 2, 1);
            Due.same("each", "6 8 9 10 0 0", Due.key(x, 0, 0));
        });
        Said.so("8", "Throws IllegalStateException if it is new, and there are 6", () -> {
            LetterTables x = new LetterTables();
            for (int i = 0; i < 6; i++) {
                x.contract(0, i, i, i + 1, 0, 0);
            }
            Due.thrown("new", Due.STATE, () -> x.contract(0, 0, 1, 50, 5, 5));
            Due.thrown("still", Due.STATE, () -> x.contract(0, 0, 1, 50, 5, 5));
            Due.is("the first one told", 6, () -> x.contract(0, 0, 0, 60, 0, 0));
            Due.is("the last one told", 6, () -> x.contract(0, 5, 5, 65, 0, 0));
            Due.is("in the other language", 1, () -> x.contract(1, 0, 1, 50, 5, 5));
            Due.write(x, 0, 0, 1, 0, 0, 5, 5);
            Due.same("as told", "60 65 0 0", Due.key(x, 0, 0));
        });
        Said.so("8", "Returns how many there are then.", () -> {
            LetterTables x = new LetterTables();
            Due.is("1", 1, () -> x.contract(1, 0, 95, 0, 0, 0));
            Due.is("2", 2, () -> x.contract(1, 95, 0, 0, 0, 0));
            Due.is("2", 2, () -> x.contract(1, 95, 0, 1, 0, 0));
        });
    }

    private static void plurals() {
        Said.so("9", "Tells a plural rule of a language.", () -> {
            LetterTables x = new LetterTables();
            x.plural(1, LetterTables.MANY, 100, 99, 99, 100, 0, 98);
            Due.is("in that language alone", N, () -> x.classOf(0, 99));
            Due.is("99", LetterTables.MANY, () -> x.classOf(1, 99));
            Due.is("98", N, () -> x.classOf(1, 98));
            Due.is("199", LetterTables.MANY, () -> x.classOf(1, 199));
        });
        Said.so("9", "Returns how many there are then.", () -> {
            LetterTables x = new LetterTables();
            for (int i = 1; i <= 4; i++) {
                int count = i;
                Due.is("in 0, the same rule again", count, () -> x.plural(0, 0, 1, 0, 0, 0, 0, 0));
                Due.is("in 1", count, () -> x.plural(1, 0, 1, 0, 0, 0, 0, 0));
            }
        });
        Said.so("9", "Throws IllegalStateException if there are 4", () -> {
            LetterTables x = new LetterTables();
            for (int i = 0; i < 4; i++) {
                x.plural(0, LetterTables.ONE, 100, i, i, 0, 0, 0);
            }
            Due.thrown("a fifth", Due.STATE, () -> x.plural(0, LetterTables.FEW, 1, 0, 0, 0, 0, 0));
            Due.is("it is not told", N, () -> x.classOf(0, 4));
            Due.is("the fourth is", LetterTables.ONE, () -> x.classOf(0, 3));
            Due.is("the other language", 1, () -> x.plural(1, LetterTables.FEW, 1, 0, 0, 0, 0, 0));
        });
        Said.so("9", "to: from to 99", () -> {
            LetterTables x = new LetterTables();
            Due.is("to is from", 1, () -> x.plural(0, 0, 100, 99, 99, 100, 0, 0));
            Due.is("to is from", 2, () -> x.plural(0, 0, 100, 0, 0, 100, 99, 99));
            Due.thrown("to one less", Due.ARGUMENT, () -> x.plural(0, 0, 100, 99, 98, 0, 0, 0));
            Due.thrown("otherTo one less", Due.ARGUMENT, () -> x.plural(0, 0, 100, 0, 0, 1, 99, 98));
            Due.thrown("both beyond", Due.ARGUMENT, () -> x.plural(0, 0, 100, 100, 100, 0, 0, 0));
            Due.thrown("both below", Due.ARGUMENT, () -> x.plural(0, 0, 100, -1, -1, 0, 0, 0));
            Due.thrown("others beyond", Due.ARGUMENT, () -> x.plural(0, 0, 100, 0, 0, 1, 100, 100));
            Due.thrown("others below", Due.ARGUMENT, () -> x.plural(0, 0, 100, 0, 0, 1, -1, -1));
            Due.is("two are told", 3, () -> x.plural(0, 0, 100, 0, 99, 100, 0, 99));
        });
    }

    private static void dictionary() {
        Said.so("Tables", "The dictionary has at most 6 words, texts of 1 to 8 letters", () -> {
            LetterTables x = new LetterTables();
            for (int size = 1; size <= 6; size++) {
                int count = size;
                Due.write(x, 0, new int[count == 6 ? 8 : count]);
                Due.is("word of " + size, count, () -> x.addWord(0));
            }
            Due.write(x, 0, 1);
            Due.thrown("a seventh", Due.STATE, () -> x.addWord(0));
            Due.thrown("slot ahead of that", Due.INDEX, () -> x.addWord(6));
        });
        Said.so("10", "Puts a text into the dictionary.", () -> {
            LetterTables x = new LetterTables();
            for (int letter = 1; letter < 5; letter++) {
                x.letter(letter, 0, LetterTables.NEUTRAL, LetterTables.SEAMLESS, letter);
            }
            Due.write(x, 0, 1, 2);
            x.addWord(0);
            Due.write(x, 0, 1, 2, 1, 2);
            Due.is("it stays when the text goes", 4, () -> x.breaks(0, 1));
            x.clear(0);
            Due.write(x, 1, 1, 2, 3);
            Due.is("it stays when the text goes", 4, () -> x.breaks(1, 1));
        });
        Said.so("10", "Returns how many words it has then.", () -> {
            LetterTables x = new LetterTables();
            Due.write(x, 0, 1);
            Due.is("1", 1, () -> x.addWord(0));
            x.clear(0);
            Due.thrown("none", Due.STATE, () -> x.addWord(0));
            Due.write(x, 0, 2);
            Due.is("2", 2, () -> x.addWord(0));
        });
        Said.so("10", "Throws IllegalStateException if the text does not have 1 to 8 letters, or there are 6", () -> {
            for (int size : new int[] {0, 9, 10, 40}) {
                LetterTables x = new LetterTables();
                Due.write(x, 5, new int[size]);
                Due.thrown(size + " letters", Due.STATE, () -> x.addWord(5));
                Due.write(x, 5, new int[8]);
                Due.is("8 letters, the first word", 1, () -> x.addWord(5));
                Due.write(x, 5, new int[1]);
                Due.is("1 letter", 2, () -> x.addWord(5));
            }
            LetterTables x = new LetterTables();
            for (int letter = 1; letter < 10; letter++) {
                x.letter(letter, 0, LetterTables.NEUTRAL, LetterTables.SEAMLESS, letter);
            }
            for (int letter = 1; letter <= 6; letter++) {
                Due.write(x, 0, letter, letter);
                x.addWord(0);
            }
            Due.write(x, 0, 7, 7);
            Due.thrown("there are 6", Due.STATE, () -> x.addWord(0));
            Due.write(x, 0, 1, 1, 6, 6, 7, 7);
            Due.is("the seventh is not there", 1 << 2 | 1 << 4 | 1 << 5, () -> x.breaks(0, 1));
        });
    }

    private static int rule(LetterTables x, int pass, int ahead, int source, int behind, int target) {
        Due.write(x, 2, new int[ahead]);
        Due.write(x, 3, new int[source]);
        Due.write(x, 4, new int[behind]);
        Due.write(x, 5, new int[target]);
        return x.addRule(pass, 2, 3, 4, 5);
    }

    private static void rules() {
        int[][] ends = {{2, 1, 0, 0}, {0, 1, 0, 0}, {0, 3, 0, 0}, {0, 1, 2, 0}, {0, 1, 0, 3}, {2, 3, 2, 3}};
        int[][] beyond = {{3, 1, 0, 0}, {0, 4, 0, 0}, {0, 0, 0, 0}, {0, 1, 3, 0}, {0, 1, 0, 4}, {40, 40, 40, 40}};
        Said.so("11", "Throws IllegalStateException if a text is too long, or the source is empty, or there are 8", () -> {
            LetterTables x = new LetterTables();
            for (int i = 0; i < ends.length; i++) {
                int[] e = ends[i];
                int[] b = beyond[i];
                Due.thrown("beyond " + i, Due.STATE, () -> rule(x, 0, b[0], b[1], b[2], b[3]));
                Due.is("end " + i, i + 1, () -> rule(x, 1, e[0], e[1], e[2], e[3]));
            }
            Due.is("7", 7, () -> rule(x, 0, 0, 1, 0, 0));
            Due.is("8", 8, () -> rule(x, 0, 0, 1, 0, 0));
            Due.thrown("a ninth", Due.STATE, () -> rule(x, 0, 0, 1, 0, 0));
        });
        Said.so("11", "Throws IndexOutOfBoundsException if there is no such slot", () -> {
            LetterTables x = new LetterTables();
            Due.write(x, 0, 1, 2, 3, 4);
            for (int at = 0; at < 4; at++) {
                int[] slots = new int[4];
                slots[at] = 6;
                Due.thrown("slot 6 ahead of a pass that is wrong and texts too long", Due.INDEX,
                        () -> x.addRule(2, slots[0], slots[1], slots[2], slots[3]));
            }
            Due.thrown("a pass that is wrong ahead of texts too long", Due.ARGUMENT, () -> x.addRule(-1, 0, 0, 0, 0));
        });
        Said.so("11", "Tells a rule of transliteration, by four texts.", () -> {
            LetterTables x = new LetterTables();
            Due.write(x, 0, 1);
            Due.is("one slot for all", 1, () -> x.addRule(0, 0, 0, 0, 0));
            Due.write(x, 0, 1);
            Due.write(x, 1, 2);
            Due.is("no contexts", 2, () -> x.addRule(0, 5, 0, 5, 1));
            x.clear(0);
            x.clear(1);
            Due.write(x, 0, 1);
            Due.is("it stays when the texts go", 1, () -> x.transliterate(0, 1, false));
            Due.same("it stays when the texts go", "2", Due.read(x, 1));
        });
        Said.so("11", "Returns how many there are then.", () -> {
            LetterTables x = new LetterTables();
            for (int i = 1; i <= 8; i++) {
                int count = i;
                Due.is("of both passes together", count, () -> rule(x, count % 2, 0, 1, 0, 0));
            }
        });
    }

    private interface Tell {
        void tell(LetterTables x);
    }

    private interface Seen {
        String seen(LetterTables x);
    }

    /** One part of the tables goes with a version: as nothing was told of it, as it was told, and as told otherwise. */
    private static void goesWith(String what, Tell tell, Tell otherwise, Seen seen) {
        LetterTables x = new LetterTables();
        x.letter(R, 0, LetterTables.RIGHT, LetterTables.OTHER, R);
        x.save();
        String before = seen.seen(x);
        tell.tell(x);
        String told = seen.seen(x);
        x.save();
        x.use(0);
        Due.same(what + ", as at first", before, seen.seen(x));
        otherwise.tell(x);
        String other = seen.seen(x);
        x.save();
        boolean isSeen = !before.equals(told) && !before.equals(other) && !told.equals(other);
        Due.same(what + ", of which each can be seen", "true", Boolean.toString(isSeen));
        for (int version : new int[] {1, 2, 0, 2, 1, 0}) {
            x.use(version);
            String due = version == 0 ? before : version == 1 ? told : other;
            Due.same(what + ", as in the version " + version, due, seen.seen(x));
        }
    }

    private static String formOf(LetterTables x, int form, int... text) {
        Due.write(x, 0, text);
        x.form(0, form, 1);
        return Due.read(x, 1);
    }

    private static String levelsOf(LetterTables x, int... text) {
        Due.write(x, 0, text);
        return Due.levels(x, 0, 0);
    }

    private static void versions() {
        Said.so("Tables", "All this, with plural rules and rules of transliteration, are the tables", () -> {
            for (int letter : new int[] {0, 5, 95}) {
                lettersGo(letter);
            }
            goesWith("a split", x -> x.split(5, 3, 4), x -> x.split(5, 3, 2), x -> formOf(x, 0, 5));
            goesWith("a split", x -> x.split(95, 94, 0), x -> x.split(95, 93, 0), x -> formOf(x, 0, 95));
            goesWith("partners", x -> x.partners(5, 4), x -> x.partners(4, 5),
                    x -> levelsOf(x, R, 5, R, 4) + levelsOf(x, R, 4, R, 5));
            goesWith("partners", x -> x.partners(0, 95), x -> x.partners(95, 0),
                    x -> levelsOf(x, R, 0, R, 95) + levelsOf(x, R, 95, R, 0));
            goesWith("partners", x -> x.partners(5, 4), x -> x.partners(5, 3),
                    x -> levelsOf(x, R, 5, R, 4) + levelsOf(x, R, 5, R, 3));
            languagesGo();
            goesWith("a word", x -> tellWord(x, 5, 5), x -> tellWord(x, 5, 5, 5), x -> {
                x.letter(5, 0, LetterTables.NEUTRAL, LetterTables.SEAMLESS, 5);
                Due.write(x, 0, 5, 5, 5, 5);
                return "" + x.breaks(0, 1);
            });
            goesWith("a rule", x -> tellRule(x, 0, 5, 6), x -> tellRule(x, 1, 5, 6), TableEdges::rulesOf);
            goesWith("a rule", x -> tellRule(x, 1, 5, 6), x -> tellRule(x, 1, 5, 7), TableEdges::rulesOf);
            goesWith("a rule", x -> tellRule(x, 1, 5, 6), x -> tellRule(x, 1, 7, 6), TableEdges::rulesOf);
            int[][] contexts = {{1, 3, 2, 3}, {3, 3, 2, 1}, {1, 3, 2, 1}};
            for (int[] c : contexts) {
                goesWith("a context", x -> tellContexts(x, c[0], c[1]), x -> tellContexts(x, c[2], c[3]),
                        TableEdges::rulesOf);
            }
        });
        Said.so("Tables", "All this, with plural rules and rules of transliteration, are the tables", () -> {
            LetterTables x = Rich.ready();
            x.use(1);
            Due.same("neither texts nor tape, out and pattern, nor how many versions", withoutLast(), Rich.seen(x));
        });
        versionCounts();
        versionsTaken();
        versionNumbers();
    }

    private static void lettersGo(int letter) {
        goesWith("a joining class", x -> joins(x, letter, 1), x -> joins(x, letter, 2), x -> {
            joins(x, 30, 2);
            return formOf(x, 0, 30, letter) + "; " + formOf(x, 2, letter);
        });
        goesWith("a direction", x -> x.letter(letter, 0, LetterTables.NUMBER, 0, letter),
                x -> x.letter(letter, 0, LetterTables.LEFT, 0, letter), x -> levelsOf(x, R, letter, R));
        goesWith("a kind", x -> x.letter(letter, 0, 3, LetterTables.MARK, letter),
                x -> x.letter(letter, 0, 3, LetterTables.JOINER, letter), x -> {
                    Due.write(x, 0, 4, letter, 4);
                    return "" + x.breaks(0, 0);
                });
        goesWith("what it looks like", x -> x.letter(letter, 0, 3, 0, 7), x -> x.letter(letter, 0, 3, 0, 8),
                x -> formOf(x, 3, letter));
        goesWith("a capital form", x -> x.capital(letter, 3, 4), x -> x.capital(letter, 3, N),
                x -> formOf(x, 2, letter));
        goesWith("a capital form", x -> x.capital(letter, 3, 4), x -> x.capital(letter, 2, 4),
                x -> formOf(x, 2, letter));
        goesWith("weights", x -> x.weigh(1, letter, 7, 8, 9), x -> x.weigh(0, letter, 7, 8, 9), x -> keys(x, letter));
        for (int i = 0; i < 3; i++) {
            int[] w = {1, 1, 1};
            w[i] = 2;
            goesWith("weights", x -> x.weigh(1, letter, 1, 1, 1), x -> x.weigh(1, letter, w[0], w[1], w[2]),
                    x -> keys(x, letter));
        }
    }

    private static void languagesGo() {
        goesWith("a contraction", x -> x.contract(0, 5, 4, 7, 8, 9), x -> x.contract(0, 5, 4, 7, 8, 8),
                x -> keys(x, 5, 4));
        goesWith("a contraction", x -> x.contract(0, 5, 4, 7, 8, 9), x -> x.contract(1, 5, 4, 7, 8, 9),
                x -> keys(x, 5, 4));
        goesWith("a contraction", x -> x.contract(0, 5, 4, 7, 8, 9), x -> x.contract(0, 5, 3, 7, 8, 9),
                x -> keys(x, 5, 4) + keys(x, 5, 3));
        goesWith("a contraction", x -> x.contract(0, 5, 4, 7, 8, 9), x -> x.contract(0, 6, 4, 7, 8, 9),
                x -> keys(x, 5, 4) + keys(x, 6, 4));
        // Each of the numbers that a plural rule is told with, by itself.
        int[] rule = {0, 5, 1, 2, 7, 0, 2};
        for (int i = 0; i < rule.length; i++) {
            int[] other = rule.clone();
            other[i]++;
            goesWith("a plural rule", x -> tellPlural(x, rule), x -> tellPlural(x, other), TableEdges::classesOf);
        }
        goesWith("a plural rule", x -> x.plural(0, 2, 1, 0, 0, 0, 0, 0), x -> x.plural(1, 2, 1, 0, 0, 0, 0, 0),
                x -> x.classOf(0, 1) + " " + x.classOf(1, 1));
    }

    private static void tellPlural(LetterTables x, int[] r) {
        x.plural(1, r[0], r[1], r[2], r[3], r[4], r[5], r[6]);
    }

    private static String classesOf(LetterTables x) {
        StringBuilder all = new StringBuilder();
        for (int number = 0; number < 35; number++) {
            all.append(x.classOf(1, number)).append(' ');
        }
        return all.toString();
    }

    private static String keys(LetterTables x, int... text) {
        Due.write(x, 0, text);
        return Due.key(x, 0, 0) + "; " + Due.key(x, 1, 0) + "; ";
    }

    private static void tellWord(LetterTables x, int... letters) {
        Due.write(x, 0, letters);
        x.addWord(0);
    }

    private static void tellRule(LetterTables x, int pass, int source, int target) {
        Due.write(x, 0, source);
        Due.write(x, 1, target);
        x.clear(3);
        x.addRule(pass, 3, 0, 3, 1);
        Due.write(x, 0, 6);
        Due.write(x, 1, 8);
        x.addRule(1, 3, 0, 3, 1);
    }

    private static void tellContexts(LetterTables x, int ahead, int behind) {
        Due.write(x, 0, ahead);
        Due.write(x, 1, 5);
        Due.write(x, 2, behind);
        Due.write(x, 3, 6);
        x.addRule(0, 0, 1, 2, 3);
    }

    private static String rulesOf(LetterTables x) {
        Due.write(x, 0, 1, 5, 3, 5, 3, 2, 5, 3, 2, 5, 1, 7, 6);
        x.transliterate(0, 1, false);
        return Due.read(x, 1);
    }

    private static void versionCounts() {
        Said.so("Tables", "All this, with plural rules and rules of transliteration, are the tables", () -> {
            LetterTables x = new LetterTables();
            x.save();
            Due.write(x, 0, 1);
            for (int i = 0; i < 4; i++) {
                x.contract(0, i, i, 1, 1, 1);
                x.plural(1, 0, 1, 0, 0, 0, 0, 0);
                x.addWord(0);
                x.addRule(0, 1, 0, 1, 1);
            }
            x.save();
            x.use(0);
            Due.is("contractions at first", 1, () -> x.contract(0, 7, 7, 1, 1, 1));
            Due.is("plural rules at first", 1, () -> x.plural(1, 0, 1, 0, 0, 0, 0, 0));
            Due.is("words at first", 1, () -> x.addWord(0));
            Due.is("rules at first", 1, () -> x.addRule(0, 1, 0, 1, 1));
            x.use(1);
            Due.is("contractions", 5, () -> x.contract(0, 7, 7, 1, 1, 1));
            Due.thrown("plural rules", Due.STATE, () -> x.plural(1, 0, 1, 0, 0, 0, 0, 0));
            Due.is("words", 5, () -> x.addWord(0));
            Due.is("rules", 5, () -> x.addRule(0, 1, 0, 1, 1));
        });
    }

    private static void versionsTaken() {
        Said.so("Tables", "they can be saved as a version, at most 4, and taken up again", () -> {
            LetterTables x = new LetterTables();
            Due.write(x, 0, 1);
            for (int i = 0; i < 4; i++) {
                int version = i;
                x.capital(1, 10 + i, N);
                Due.is("saved", version, x::save);
            }
            x.capital(1, N, N);
            Due.thrown("a fifth", Due.STATE, x::save);
            for (int version : new int[] {3, 0, 2, 1, 1, 3}) {
                x.use(version);
                form("version " + version, x, 2, "" + (10 + version), 1);
            }
            x.capital(1, 90, N);
            Due.thrown("a fifth", Due.STATE, x::save);
            form("what is told stays", x, 2, "90", 1);
            x.use(3);
            form("the version is what it was", x, 2, "13", 1);
        });
        Said.so("12", "Saves all tables.", () -> {
            LetterTables x = new LetterTables();
            x.save();
            x.weigh(0, 1, 7, 7, 7);
            x.save();
            x.use(0);
            Due.write(x, 0, 1);
            Due.same("the first one", "0 0", Due.key(x, 0, 0));
            x.weigh(0, 1, 8, 8, 8);
            x.use(1);
            Due.same("the second one", "7 0 7 0 7", Due.key(x, 0, 0));
            x.use(0);
            Due.same("what was told meanwhile is gone", "0 0", Due.key(x, 0, 0));
        });
        versionNumbers();
    }

    private static void versionNumbers() {
        Said.so("12", "Returns the number of the version, from 0 on.", () -> {
            LetterTables x = new LetterTables();
            Due.is("0", 0, x::save);
            Due.is("1", 1, x::save);
            x.use(0);
            Due.is("2, whichever is in use", 2, x::save);
            Due.is("3", 3, x::save);
        });
        Said.so("12", "Throws IllegalStateException if there are 4", () -> {
            LetterTables x = new LetterTables();
            for (int i = 0; i < 4; i++) {
                x.save();
            }
            for (int i = 0; i < 4; i++) {
                Due.thrown("no more", Due.STATE, x::save);
            }
        });
        Said.so("13", "Takes the tables of a version up.", () -> {
            LetterTables x = Rich.ready();
            x.use(0);
            x.use(1);
            x.use(1);
            Due.same("again and again", withoutLast(), Rich.seen(x));
        });
        Said.so("13", "Throws IndexOutOfBoundsException if there is no such version", () -> {
            LetterTables x = new LetterTables();
            Due.thrown("none yet", Due.INDEX, Due.quiet(() -> x.use(0)));
            for (int i = 0; i < 4; i++) {
                int next = i;
                Due.thrown("not yet", Due.INDEX, Due.quiet(() -> x.use(next)));
                x.save();
                Due.is("now", 0, Due.quiet(() -> x.use(next)));
                Due.thrown("-1", Due.INDEX, Due.quiet(() -> x.use(N)));
            }
            Due.thrown("4", Due.INDEX, Due.quiet(() -> x.use(4)));
            Due.thrown("the least", Due.INDEX, Due.quiet(() -> x.use(Integer.MIN_VALUE)));
            Due.thrown("the greatest", Due.INDEX, Due.quiet(() -> x.use(Integer.MAX_VALUE)));
        });
    }

    /** The rich object with what is told behind its last version taken back by telling it the other way. */
    private static String withoutLast() {
        LetterTables x = Rich.ready();
        x.letter(12, 0, LetterTables.NEUTRAL, LetterTables.OTHER, 12);
        x.weigh(1, 4, 0, 0, 0);
        return Rich.seen(x);
    }
}
