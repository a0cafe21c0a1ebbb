/** The sentences of 'Normal forms', and what the promises 14 to 18 add to them. */
final class FormEdges {
    private static final int N = LetterTables.NONE;

    private FormEdges() {
    }

    static void all() {
        puts();
        ats();
        split();
        joined();
        joinedBetween();
        folded();
        skeleton();
        lookedAt();
        lookedAtFolded();
        forms();
        formsRefused();
        looksLike();
    }

    private static int alike(LetterTables x, int slot, int other) {
        return x.looksLike(slot, other) ? 1 : 0;
    }

    private static void form(String what, LetterTables x, int form, String want, int... text) {
        Due.write(x, 0, text);
        Due.is(what + ", size", want.isEmpty() ? 0 : want.split(" ").length, () -> x.form(0, form, 1));
        Due.same(what, want, Due.read(x, 1));
    }

    /** Letters 21 to 29 of the joining classes 1 to 9, and 31 to 39 of the same ones. */
    private static LetterTables marked() {
        LetterTables x = new LetterTables();
        for (int joins = 1; joins <= 9; joins++) {
            x.letter(20 + joins, joins, LetterTables.NEUTRAL, LetterTables.MARK, 20 + joins);
            x.letter(30 + joins, joins, LetterTables.NEUTRAL, LetterTables.MARK, 30 + joins);
        }
        return x;
    }

    // ---- promises 14 to 16

    private static void puts() {
        Said.so("14", "Puts a letter behind a text.", () -> {
            LetterTables x = new LetterTables();
            Due.is("0", 1, () -> x.put(5, 0));
            Due.is("95", 2, () -> x.put(5, 95));
            Due.same("one behind the other", "0 95", Due.read(x, 5));
        });
        Said.so("14", "Returns how many it has then.", () -> {
            LetterTables x = new LetterTables();
            for (int i = 1; i <= 40; i++) {
                int count = i;
                Due.is("put", count, () -> x.put(0, 95 - count));
            }
            Due.is("the first", 94, () -> x.at(0, 0));
            Due.is("the last", 55, () -> x.at(0, 39));
        });
        Said.so("14", "Throws IllegalStateException if it has 40", () -> {
            LetterTables x = new LetterTables();
            Due.write(x, 2, Due.of(40, 7));
            Due.thrown("a 41st", Due.STATE, () -> x.put(2, 8));
            Due.thrown("again", Due.STATE, () -> x.put(2, 8));
            Due.thrown("a letter that there is not, ahead of that", Due.INDEX, () -> x.put(2, 96));
            Due.is("still 40", 40, () -> x.clear(2));
            Due.is("and then the first", 1, () -> x.put(2, 8));
        });
    }

    private static void ats() {
        Said.so("15", "Makes a text empty.", () -> {
            LetterTables x = new LetterTables();
            Due.write(x, 0, 1, 2);
            Due.write(x, 1, 3);
            x.clear(0);
            Due.is("empty", 0, () -> x.at(0, N));
            Due.thrown("nothing there", Due.INDEX, () -> x.at(0, 0));
            Due.is("the other one stays", 1, () -> x.at(1, N));
        });
        Said.so("15", "Returns how many letters it had.", () -> {
            for (int size : new int[] {0, 1, 39, 40}) {
                LetterTables x = new LetterTables();
                Due.write(x, 0, Due.of(size, 3));
                Due.is("size " + size, size, () -> x.clear(0));
                Due.is("then empty", 0, () -> x.clear(0));
            }
        });
        Said.so("16", "Returns a letter of a text", () -> {
            LetterTables x = new LetterTables();
            Due.write(x, 0, Due.of(40, 5, 95));
            Due.is("the first", 5, () -> x.at(0, 0));
            Due.is("the last", 95, () -> x.at(0, 39));
            Due.thrown("behind the last", Due.INDEX, () -> x.at(0, 40));
            Due.thrown("ahead of NONE", Due.INDEX, () -> x.at(0, -2));
            Due.write(x, 0, 1);
            Due.thrown("what was there before is gone", Due.INDEX, () -> x.at(0, 1));
        });
        Said.so("16", "with NONE as its place how many it has", () -> {
            for (int size : new int[] {0, 1, 40}) {
                LetterTables x = new LetterTables();
                Due.write(x, 5, Due.of(size, 3));
                Due.is("size", size, () -> x.at(5, N));
                Due.thrown("no slot", Due.INDEX, () -> x.at(6, N));
            }
        });
        Said.so("16", "Throws IndexOutOfBoundsException if there is no such slot or place", () -> {
            LetterTables x = new LetterTables();
            Due.thrown("an empty text has no place 0", Due.INDEX, () -> x.at(0, 0));
        });
    }

    // ---- the forms

    private static void split() {
        Said.so("Normal forms", "A text is split by putting for each letter that splits the two letters, as long as there"
                + " is one", () -> {
                    LetterTables x = new LetterTables();
                    form("an empty text", x, 0, "");
                    for (int letter = 57; letter < 96; letter++) {
                        x.split(letter, letter - 1, 1);
                    }
                    form("39 one in another, on the left", x, 0, "56" + " 1".repeat(39), 95);
                    for (int letter = 57; letter < 96; letter++) {
                        x.split(letter, 1, letter - 1);
                    }
                    form("39 one in another, on the right", x, 0, "1 ".repeat(39) + "56", 95);
                    for (int letter = 57; letter < 96; letter++) {
                        x.split(letter, N, N);
                    }
                    x.split(4, 2, 2);
                    x.split(2, 1, 0);
                    form("both of them split", x, 0, "1 0 1 0 1 0 3", 4, 2, 3);
                });
        Said.so("Normal forms", "of which the second one has a joining class above 0, less than that of the first one,"
                + " exchanging them, as long as there are such", () -> {
                    LetterTables x = marked();
                    for (int joins = 1; joins < 9; joins++) {
                        int one = 20 + joins;
                        String sorted = one + " " + (one + 1);
                        form("one less", x, 0, sorted, one + 1, one);
                        form("as it should be", x, 0, sorted, one, one + 1);
                        form("alike", x, 0, (one + 10) + " " + one, one + 10, one);
                        form("the second one 0", x, 0, one + " 5", one, 5);
                        form("the first one 0", x, 0, "5 " + one, 5, one);
                    }
                    form("9 and 1", x, 0, "21 29", 29, 21);
                    form("as long as there are such", x, 0, "21 22 23 24 25 26 27 28 29", 29, 28, 27, 26, 25, 24, 23, 22,
                            21);
                    form("alike ones in their order", x, 0, "31 21 39 29", 39, 29, 31, 21);
                    form("0 between", x, 0, "29 5 21", 29, 5, 21);
                    Due.write(x, 0, Due.of(40, 29, 21));
                    Due.is("40 of them", 40, () -> x.form(0, 0, 1));
                    Due.same("from the very end", "21" + " 29".repeat(39), Due.read(x, 1));
                });
    }

    private static void joined() {
        Said.so("Normal forms", "It is joined by splitting it, and then going from the second letter on", () -> {
            LetterTables x = marked();
            x.split(50, 5, 21);
            form("an empty text", x, 1, "");
            form("one letter", x, 1, "5", 5);
            form("one mark", x, 1, "21", 21);
            form("one that splits comes back", x, 1, "50", 50);
            form("the first letter joins nothing", x, 1, "21 5", 21, 5);
            form("the second one does", x, 1, "50", 5, 21);
            form("the last one of 40 does", x, 1, "7 ".repeat(38) + "50", Due.of(40, 7, 5, 21));
        });
        Said.so("Normal forms", "with s the last letter ahead, by then, that has the joining class 0", () -> {
            LetterTables x = marked();
            x.split(50, 5, 21);
            x.split(51, 50, 22);
            x.split(52, 5, 22);
            x.split(53, 21, 22);
            form("none of the class 0 ahead", x, 1, "21 22", 21, 22);
            form("none of the class 0 ahead", x, 1, "21 22", 53);
            form("the last one, not the first one", x, 1, "5 50", 5, 5, 21);
            form("another one behind it is the last", x, 1, "5 6 21", 5, 6, 21);
            form("what it became is s by then", x, 1, "51", 5, 21, 22);
            x.letter(50, 3, LetterTables.NEUTRAL, LetterTables.OTHER, 50);
            form("of another class it is s no more", x, 1, "5 50 22", 5, 5, 21, 22);
            form("but may stand between", x, 1, "50", 5, 21);
            x.letter(50, 1, LetterTables.NEUTRAL, LetterTables.OTHER, 50);
            form("with a lesser class it lets it by", x, 1, "52 50", 5, 5, 21, 22);
        });
        Said.so("Normal forms", "and some letter splits into s and it, s becomes that, the lowest of several, and it goes",
                () -> {
                    LetterTables x = marked();
                    form("none does", x, 1, "5 21", 5, 21);
                    x.split(95, 5, 21);
                    form("the greatest letter", x, 1, "95", 5, 21);
                    x.split(94, 5, 21);
                    form("a lower one", x, 1, "94", 95);
                    x.split(60, 5, 21);
                    form("the lowest", x, 1, "60 60 60 60", 95, 94, 60, 5, 21);
                    x.split(60, 5, 22);
                    form("the other way round is another", x, 1, "21 5", 21, 5);
                    x.split(1, 0, 0);
                    form("the lowest that there can be", x, 1, "1 0", 0, 0, 0);
                });
    }

    private static void joinedBetween() {
        Said.so("Normal forms", "if all letters between s and it have joining classes above 0 and less than its own (or"
                + " there are none between)", () -> {
                    LetterTables x = marked();
                    for (int joins = 1; joins <= 9; joins++) {
                        x.split(70 + joins, 5, 20 + joins);
                    }
                    x.split(60, 5, 6);
                    for (int joins = 1; joins < 9; joins++) {
                        int mark = 20 + joins;
                        form("one less between", x, 1, (70 + joins + 1) + " " + (mark + 10), 5, mark + 10, mark + 1);
                        form("one alike between", x, 1, "5 " + (mark + 10) + " " + mark, 5, mark + 10, mark);
                        form("none between", x, 1, "" + (70 + joins), 5, mark);
                    }
                    form("all less", x, 1, "79 31 32 33 34 35 36 37 38", 5, 31, 32, 33, 34, 35, 36, 37, 38, 29);
                    form("one alike among them", x, 1, "5 31 39 29", 5, 31, 39, 29);
                    form("the class 0, none between", x, 1, "60", 5, 6);
                    form("the class 0, one between", x, 1, "5 31 6", 5, 31, 6);
                    form("one between that goes leaves none", x, 1, "71 6", 5, 21, 6);
                    x.split(80, 71, 6);
                    form("so that the next one joins", x, 1, "80", 5, 21, 6);
                });
    }

    private static void folded() {
        Said.so("Normal forms", "A text is folded by putting for each letter its capital form, splitting that, and leaving"
                + " out all letters of a joining class above 0", () -> {
                    LetterTables x = marked();
                    form("an empty text", x, 2, "");
                    form("a class 0 stays", x, 2, "5", 5);
                    form("1 to 9 go", x, 2, "", 21, 22, 23, 24, 25, 26, 27, 28, 29);
                    x.capital(5, 6, N);
                    x.capital(6, 7, 48);
                    form("once alone", x, 2, "6 7 48", 5, 6);
                    x.split(48, 5, 29);
                    form("the capital is split, what it splits into is not made a capital", x, 2, "7 5", 6);
                    form("a letter without a capital form is split", x, 2, "5", 48);
                    x.capital(48, 9, 21);
                    form("the capital form comes ahead of the split", x, 2, "9", 48);
                    x.capital(21, 22, 23);
                    form("a capital form that goes", x, 2, "", 21);
                    x.capital(22, 1, N);
                    form("a mark with a capital form that stays", x, 2, "1", 22);
                    Due.write(x, 0, Due.of(40, 29, 5));
                    Due.is("39 that go", 1, () -> x.form(0, 2, 1));
                });
    }

    private static void skeleton() {
        Said.so("Normal forms", "The skeleton of a text is its split form, with what each letter looks like in its place,"
                + " split again", () -> {
                    LetterTables x = marked();
                    form("an empty text", x, 3, "");
                    x.split(50, 5, 21);
                    x.split(51, 6, 22);
                    x.letter(50, 0, LetterTables.NEUTRAL, LetterTables.OTHER, 9);
                    form("what splits is not looked at", x, 3, "5 21", 50);
                    x.letter(5, 0, LetterTables.NEUTRAL, LetterTables.OTHER, 51);
                    form("it is split again, and sorted", x, 3, "6 21 22", 50);
                    x.letter(6, 0, LetterTables.NEUTRAL, LetterTables.OTHER, 7);
                    form("once alone: not what that looks like", x, 3, "6 21 22", 5, 21);
                    x.letter(28, 8, LetterTables.NEUTRAL, LetterTables.MARK, 8);
                    form("sorted ahead of the looks", x, 3, "8 1 21 8", 28, 1, 28, 21);
                });
    }

    // ---- 80 letters on the way

    private static int lookable(LetterTables x, int... text) {
        Due.write(x, 3, text);
        return alike(x, 3, 3);
    }

    private static void lookedAt() {
        Said.so("Normal forms", "has more than 80 letters cannot be looked at so: IllegalStateException", () -> {
            LetterTables x = marked();
            x.split(6, 5, 5);
            x.split(7, 6, 5);
            x.split(48, 5, 21);
            x.split(49, 48, 1);
            int[] just = Due.of(40, 6);
            int[] more = Due.of(40, 6, 7);
            Due.is("split, 80", 1, () -> lookable(x, just));
            Due.thrown("split, 81", Due.STATE, () -> lookable(x, more));
            Due.is("key of an empty text", 2, () -> x.key(0, 0, N));
            Due.thrown("key, 81", Due.STATE, () -> x.key(0, 3, N));
            Due.thrown("compare, 81", Due.STATE, () -> x.compare(0, 3, 0));
            Due.thrown("compare, 81 as the other", Due.STATE, () -> x.compare(0, 0, 3));
            Due.write(x, 3, Due.of(40, 6));
            Due.is("key, 80", 2, () -> x.key(0, 3, N));
            Due.is("compare, 80", 0, () -> x.compare(0, 3, 0));
            Due.write(x, 0, Due.of(40, 48));
            Due.is("joined, 80 on the way", 40, () -> x.form(0, 1, 1));
            Due.write(x, 0, Due.of(40, 48, 49));
            Due.thrown("joined, 81 on the way", Due.STATE, () -> x.form(0, 1, 1));
            Due.same("the target stays", "48" + " 48".repeat(39), Due.read(x, 1));
        });
        Said.so("Normal forms", "has more than 80 letters cannot be looked at so: IllegalStateException", () -> {
            LetterTables x = new LetterTables();
            for (int letter = 2; letter < 95; letter++) {
                x.split(letter, letter - 1, 0);
            }
            Due.is("one in another, 80", 1, () -> lookable(x, 80));
            Due.thrown("one in another, 81", Due.STATE, () -> lookable(x, 81));
            Due.thrown("one in another, 94", Due.STATE, () -> lookable(x, 94));
            Due.is("79 and 1", 1, () -> lookable(x, 79, 1));
            Due.thrown("79 and 2", Due.STATE, () -> lookable(x, 79, 2));
            Due.thrown("2 and 79", Due.STATE, () -> lookable(x, 2, 79));
            Due.is("40 and 40", 1, () -> lookable(x, 40, 40));
            Due.thrown("40 and 41", Due.STATE, () -> lookable(x, 40, 41));
            for (int letter : new int[] {81, 94}) {
                Due.write(x, 0, letter);
                for (int form = 0; form < 4; form++) {
                    int which = form;
                    Due.thrown(letter + ", form " + form, Due.STATE, () -> x.form(0, which, 1));
                }
            }
        });
        Said.so("Normal forms", "A text of which such a form, on the way to it", () -> {
            LetterTables x = new LetterTables();
            x.split(6, 5, 5);
            x.letter(1, 0, LetterTables.NEUTRAL, LetterTables.OTHER, 6);
            Due.is("looks, split again: 80", 1, () -> lookable(x, Due.of(40, 1)));
            x.split(2, 1, 1);
            Due.thrown("looks, split again: 82", Due.STATE, () -> lookable(x, Due.of(40, 1, 2)));
            x.letter(1, 0, LetterTables.NEUTRAL, LetterTables.OTHER, 1);
            Due.is("split, looks: 41", 1, () -> lookable(x, Due.of(40, 1, 2)));
            x.letter(5, 0, LetterTables.NEUTRAL, LetterTables.OTHER, 6);
            Due.is("split, looks, split again: 80", 1, () -> lookable(x, Due.of(20, 6)));
            Due.thrown("split, looks, split again: 82", Due.STATE, () -> lookable(x, Due.of(21, 6, 5)));
        });
    }

    private static void lookedAtFolded() {
        Said.so("Normal forms", "A text of which such a form, on the way to it", () -> {
            LetterTables x = marked();
            x.split(48, 21, 21);
            x.split(49, 48, 21);
            x.capital(1, 48, N);
            x.capital(2, 49, N);
            x.capital(3, 21, 21);
            Due.write(x, 0, Due.of(40, 1));
            Due.is("folded: 80, which all go", 0, () -> x.form(0, 2, 1));
            Due.write(x, 0, Due.of(40, 1, 2));
            Due.thrown("folded: 81, which would all go", Due.STATE, () -> x.form(0, 2, 1));
            Due.write(x, 0, Due.of(40, 3));
            Due.is("folded: capitals are 80", 0, () -> x.form(0, 2, 1));
            Due.is("find: 80", N, () -> x.find(0, 5, 0));
            x.capital(3, 21, 48);
            Due.thrown("folded: 120", Due.STATE, () -> x.form(0, 2, 1));
            Due.write(x, 0, Due.of(27, 3, 5, 5));
            Due.is("folded: 77", 2, () -> x.form(0, 2, 1));
            Due.write(x, 0, Due.of(29, 3, 5, 5, 5, 5));
            Due.is("folded: 79", 4, () -> x.form(0, 2, 1));
            Due.write(x, 0, Due.of(30, 3, 5, 5, 5, 5, 5));
            Due.is("folded: 80", 5, () -> x.form(0, 2, 1));
            x.put(0, 5);
            Due.thrown("folded: 81", Due.STATE, () -> x.form(0, 2, 1));
            Due.thrown("find: 81", Due.STATE, () -> x.find(0, 5, 0));
            Due.thrown("find: 81 as what is wanted", Due.STATE, () -> x.find(5, 0, 0));
            x.split(90, 89, 89);
            x.split(91, 90, 89);
            x.capital(90, 5, N);
            Due.write(x, 0, Due.of(40, 91));
            Due.thrown("folded: the split without a capital", Due.STATE, () -> x.form(0, 2, 1));
            Due.write(x, 0, Due.of(40, 90));
            Due.is("folded: only the capital is split", 40, () -> x.form(0, 2, 1));
        });
    }

    // ---- promises 17 and 18

    private static void forms() {
        Said.so("17", "form: 0 split, 1 joined, 2 folded, 3 the skeleton", () -> {
            LetterTables x = marked();
            x.letter(5, 0, LetterTables.NEUTRAL, LetterTables.OTHER, 1);
            x.letter(21, 1, LetterTables.NEUTRAL, LetterTables.MARK, 2);
            x.split(50, 5, 21);
            String[] due = {"5 21 5", "50 5", "5 5", "1 2 1"};
            for (int form = 0; form < 4; form++) {
                form("form " + form, x, form, due[form], 50, 5);
            }
            Due.thrown("4", Due.ARGUMENT, () -> x.form(0, 4, 1));
            Due.thrown("-1", Due.ARGUMENT, () -> x.form(0, -1, 1));
        });
        Said.so("17", "Puts a form of a text into a slot.", () -> {
            LetterTables x = new LetterTables();
            x.split(50, 5, 6);
            Due.write(x, 0, 50, 7);
            Due.write(x, 5, Due.of(40, 9));
            Due.is("into a full one", 3, () -> x.form(0, 0, 5));
            Due.same("instead of what was there", "5 6 7", Due.read(x, 5));
            Due.same("the text stays", "50 7", Due.read(x, 0));
            Due.is("into itself", 3, () -> x.form(0, 0, 0));
            Due.same("into itself", "5 6 7", Due.read(x, 0));
            Due.is("an empty one", 0, () -> x.form(4, 3, 5));
            Due.is("makes it empty", 0, () -> x.at(5, N));
            Due.is("joined into itself", 2, () -> x.form(0, 1, 0));
            Due.same("joined into itself", "50 7", Due.read(x, 0));
        });
        Said.so("17", "Returns how many letters it has.", () -> {
            for (int form = 0; form < 4; form++) {
                int which = form;
                LetterTables x = new LetterTables();
                Due.is("none", 0, () -> x.form(0, which, 1));
                Due.write(x, 0, Due.of(40, 3));
                Due.is("40", 40, () -> x.form(0, which, 1));
                Due.is("40", 40, () -> x.at(1, N));
            }
        });
    }

    private static void formsRefused() {
        Said.so("17", "Throws IllegalStateException if it has more than 40 letters, or cannot be looked at so", () -> {
            for (int form = 0; form < 4; form++) {
                int which = form;
                LetterTables x = new LetterTables();
                x.split(6, 5, 5);
                x.capital(1, 2, 2);
                x.letter(1, 0, LetterTables.NEUTRAL, LetterTables.OTHER, form == 3 ? 6 : 1);
                int grows = form == 0 ? 6 : 1;
                Due.write(x, 1, 9);
                Due.write(x, 0, Due.of(39, 3, grows));
                Due.is("40, form " + form, form == 1 ? 39 : 40, () -> x.form(0, which, 2));
                Due.write(x, 0, Due.of(39, 3, grows, grows));
                if (which != 1) {
                    Due.thrown("41, form " + form, Due.STATE, () -> x.form(0, which, 1));
                    Due.thrown("no such form ahead of that", Due.ARGUMENT, () -> x.form(0, 4, 1));
                    Due.thrown("no such slot ahead of that", Due.INDEX, () -> x.form(0, which, 6));
                    Due.thrown("into itself", Due.STATE, () -> x.form(0, which, 0));
                }
                Due.same("the target stays", "9", Due.read(x, 1));
                Due.is("the text stays", 39, () -> x.at(0, N));
                Due.is("the text stays", grows, () -> x.at(0, 38));
            }
        });
        Said.so("17", "Throws IllegalStateException if it has more than 40 letters, or cannot be looked at so", () -> {
            LetterTables x = marked();
            // It splits into a mark and a letter, which nothing joins.
            x.split(49, 21, 5);
            Due.write(x, 0, Due.of(20, 49));
            Due.is("joined, 40 in the end", 40, () -> x.form(0, 1, 1));
            x.put(0, 5);
            Due.thrown("joined, 41 in the end", Due.STATE, () -> x.form(0, 1, 1));
            Due.is("the target stays", 40, () -> x.at(1, N));
        });
    }

    private static void looksLike() {
        Said.so("18", "Tells whether the skeletons of two texts are alike.", () -> {
            LetterTables x = new LetterTables();
            Due.is("two empty ones", 1, () -> alike(x, 0, 1));
            Due.write(x, 0, 3);
            Due.is("one is empty", 0, () -> alike(x, 0, 1));
            Due.is("the other one is empty", 0, () -> alike(x, 1, 0));
            Due.is("one and the same", 1, () -> alike(x, 0, 0));
            Due.write(x, 1, Due.of(40, 3));
            Due.write(x, 2, Due.of(40, 3, 4));
            Due.is("the last of 40 is another", 0, () -> alike(x, 1, 2));
            x.letter(4, 0, LetterTables.NEUTRAL, LetterTables.OTHER, 3);
            Due.is("and looks like it", 1, () -> alike(x, 1, 2));
            Due.write(x, 2, Due.of(39, 3));
            Due.is("one less", 0, () -> alike(x, 1, 2));
            Due.is("one more", 0, () -> alike(x, 2, 1));
            x.split(9, 3, 3);
            Due.write(x, 1, Due.of(40, 9));
            Due.write(x, 2, Due.of(40, 9));
            Due.is("80 letters", 1, () -> alike(x, 1, 2));
        });
        Said.so("18", "Throws IllegalStateException if one cannot be looked at so", () -> {
            LetterTables x = new LetterTables();
            x.split(9, 3, 3);
            x.split(10, 9, 3);
            Due.write(x, 1, Due.of(40, 9, 10));
            Due.thrown("one", Due.STATE, () -> alike(x, 1, 0));
            Due.thrown("the other", Due.STATE, () -> alike(x, 0, 1));
            Due.thrown("both", Due.STATE, () -> alike(x, 1, 1));
            Due.thrown("no slot ahead of that", Due.INDEX, () -> alike(x, 1, 6));
            Due.thrown("no slot ahead of that", Due.INDEX, () -> alike(x, -1, 1));
        });
    }
}
