import java.util.Arrays;

/** The sentences of 'Transliteration', 'Messages' and 'Encoding', and what the promises 30 to 35 add to them. */
final class OutEdges {
    private static final int N = LetterTables.NONE;

    private OutEdges() {
    }

    static void all() {
        ruleRows();
        rules();
        contexts();
        passes();
        back();
        transliterates();
        transliteratesWrong();
        MessageEdges.all();
        bytes();
        states();
        constants();
        words();
        encodes();
        decodes();
        decodesWrong();
    }

    private static int rule(LetterTables x, int pass, int[] ahead, int[] source, int[] behind, int[] target) {
        Due.write(x, 2, ahead);
        Due.write(x, 3, source);
        Due.write(x, 4, behind);
        Due.write(x, 5, target);
        return x.addRule(pass, 2, 3, 4, 5);
    }

    private static void goes(LetterTables x, boolean isBack, String want, int... text) {
        Due.write(x, 0, text);
        String what = Due.read(x, 0) + (isBack ? " back" : "");
        Due.is(what, want.isEmpty() ? 0 : want.split(" ").length, () -> x.transliterate(0, 1, isBack));
        Due.same(what, want, Due.read(x, 1));
    }

    // ---- transliteration

    private static void ruleRows() {
        Said.so("Transliteration", "what has to stand ahead, 0 to 2", () -> {
            LetterTables x = new LetterTables();
            rule(x, 0, Due.row(1, 2), Due.row(9), Due.row(), Due.row(8));
            goes(x, false, "1 2 8", 1, 2, 9);
            goes(x, false, "2 9", 2, 9);
            goes(x, false, "2 1 9", 2, 1, 9);
            goes(x, false, "9", 9);
            Due.thrown("3", Due.STATE, () -> rule(x, 0, Due.row(1, 2, 3), Due.row(9), Due.row(), Due.row(8)));
            Due.is("0", 2, () -> rule(x, 0, Due.row(), Due.row(9), Due.row(), Due.row(7)));
            goes(x, false, "7 1 2 8", 9, 1, 2, 9);
        });
        Said.so("Transliteration", "the source, 1 to 3", () -> {
            LetterTables x = new LetterTables();
            Due.thrown("0", Due.STATE, () -> rule(x, 0, Due.row(), Due.row(), Due.row(), Due.row(8)));
            Due.thrown("4", Due.STATE, () -> rule(x, 0, Due.row(), Due.row(1, 2, 3, 4), Due.row(), Due.row(8)));
            Due.is("3", 1, () -> rule(x, 0, Due.row(), Due.row(1, 2, 3), Due.row(), Due.row(8)));
            Due.is("1", 2, () -> rule(x, 0, Due.row(), Due.row(1), Due.row(), Due.row(7)));
            goes(x, false, "8", 1, 2, 3);
            goes(x, false, "7 2", 1, 2);
            goes(x, false, "7 7 2 4", 1, 1, 2, 4);
        });
        Said.so("Transliteration", "what has to stand behind, 0 to 2", () -> {
            LetterTables x = new LetterTables();
            rule(x, 0, Due.row(), Due.row(9), Due.row(1, 2), Due.row(8));
            goes(x, false, "8 1 2", 9, 1, 2);
            goes(x, false, "9 1", 9, 1);
            goes(x, false, "9 2 1", 9, 2, 1);
            goes(x, false, "9", 9);
            Due.thrown("3", Due.STATE, () -> rule(x, 0, Due.row(), Due.row(9), Due.row(1, 2, 3), Due.row(8)));
            Due.is("0", 2, () -> rule(x, 0, Due.row(), Due.row(9), Due.row(), Due.row(7)));
            goes(x, false, "8 1 2 7", 9, 1, 2, 9);
        });
        Said.so("Transliteration", "and the target, 0 to 3", () -> {
            LetterTables x = new LetterTables();
            Due.thrown("4", Due.STATE, () -> rule(x, 0, Due.row(), Due.row(9), Due.row(), Due.row(1, 2, 3, 4)));
            Due.is("3", 1, () -> rule(x, 0, Due.row(), Due.row(9), Due.row(), Due.row(1, 2, 3)));
            Due.is("0", 2, () -> rule(x, 0, Due.row(), Due.row(8), Due.row(), Due.row()));
            goes(x, false, "1 2 3 1 2 3", 8, 9, 8, 9);
            goes(x, false, "", 8);
        });
        Said.so("Transliteration", "at most 8 rules are told", () -> {
            LetterTables x = new LetterTables();
            for (int i = 1; i <= 8; i++) {
                int count = i;
                Due.is("rule " + i, count, () -> rule(x, count % 2, Due.row(), Due.row(count), Due.row(), Due.row(count + 10)));
            }
            Due.thrown("a ninth", Due.STATE, () -> rule(x, 0, Due.row(), Due.row(9), Due.row(), Due.row(19)));
            goes(x, false, "11 18 9", 1, 8, 9);
        });
    }

    private static void rules() {
        Said.so("Transliteration", "A rule has a pass, 0 or 1", () -> {
            LetterTables x = new LetterTables();
            rule(x, 1, Due.row(), Due.row(1), Due.row(), Due.row(2));
            rule(x, 0, Due.row(), Due.row(2), Due.row(), Due.row(1));
            goes(x, false, "2 2", 1, 2);
            goes(x, true, "2 2", 1, 2);
            Due.thrown("2", Due.ARGUMENT, () -> rule(x, 2, Due.row(), Due.row(1), Due.row(), Due.row(2)));
            Due.thrown("-1", Due.ARGUMENT, () -> rule(x, -1, Due.row(), Due.row(1), Due.row(), Due.row(2)));
        });
        Said.so("Transliteration", "A pass goes from the left: the first rule of it, whose source stands there", () -> {
            LetterTables x = new LetterTables();
            rule(x, 1, Due.row(), Due.row(5), Due.row(), Due.row(6));
            rule(x, 0, Due.row(), Due.row(1), Due.row(), Due.row(7));
            rule(x, 0, Due.row(), Due.row(1, 2), Due.row(), Due.row(8));
            rule(x, 0, Due.row(), Due.row(2, 2), Due.row(), Due.row(9));
            goes(x, false, "7 2", 1, 2);
            goes(x, false, "9 2", 2, 2, 2);
            goes(x, false, "7 9 6", 1, 2, 2, 5);
        });
        Said.so("Transliteration", "puts its target out, and one goes on behind the source", () -> {
            LetterTables x = new LetterTables();
            rule(x, 0, Due.row(), Due.row(1, 1), Due.row(), Due.row(1));
            goes(x, false, "1 1", 1, 1, 1);
            goes(x, false, "1 1", 1, 1, 1, 1);
            rule(x, 0, Due.row(), Due.row(3), Due.row(), Due.row(3, 3));
            goes(x, false, "3 3 3 3", 3, 3);
        });
        Said.so("Transliteration", "otherwise the letter is put out", () -> {
            LetterTables x = new LetterTables();
            goes(x, false, "0 95", 0, 95);
            goes(x, false, "");
            goes(x, true, "");
            rule(x, 0, Due.row(), Due.row(1), Due.row(), Due.row(2));
            goes(x, false, "0 2 95", 0, 1, 95);
            Due.write(x, 0, Due.of(40, 7));
            Due.is("40", 40, () -> x.transliterate(0, 0, false));
        });
    }

    private static void contexts() {
        Said.so("Transliteration", "whose row ahead ends what has come out so far, and whose row behind stands behind the"
                + " source", () -> {
                    LetterTables x = new LetterTables();
                    rule(x, 0, Due.row(), Due.row(1), Due.row(), Due.row(2));
                    rule(x, 0, Due.row(2), Due.row(3), Due.row(), Due.row(4));
                    rule(x, 0, Due.row(), Due.row(5), Due.row(1), Due.row(6));
                    rule(x, 0, Due.row(2, 2), Due.row(7), Due.row(1, 1), Due.row(8));
                    // Ahead: what has come out, not what stood there.
                    goes(x, false, "2 4", 1, 3);
                    goes(x, false, "2 4", 2, 3);
                    goes(x, false, "3 4 3", 3, 4, 3);
                    // Behind: what stands there, not what comes of it.
                    goes(x, false, "6 2", 5, 1);
                    goes(x, false, "5 2", 5, 2);
                    goes(x, false, "5", 5);
                    goes(x, false, "2 2 8 2 2", 1, 2, 7, 1, 1);
                    goes(x, false, "2 2 7 2", 1, 2, 7, 1);
                    goes(x, false, "2 7 2 2", 2, 7, 1, 1);
                    LetterTables y = new LetterTables();
                    rule(y, 0, Due.row(1, 2), Due.row(3, 4, 5), Due.row(6, 7), Due.row(8, 9, 10));
                    goes(y, false, "1 2 8 9 10 6 7", 1, 2, 3, 4, 5, 6, 7);
                    goes(y, false, "2 3 4 5 6 7", 2, 3, 4, 5, 6, 7);
                    goes(y, false, "1 2 3 4 5 6", 1, 2, 3, 4, 5, 6);
                    goes(y, false, "1 2 3 4", 1, 2, 3, 4);
                });
    }

    private static void passes() {
        Said.so("Transliteration", "The passes are done one after the other.", () -> {
            LetterTables x = new LetterTables();
            rule(x, 1, Due.row(), Due.row(2), Due.row(), Due.row(3));
            rule(x, 0, Due.row(), Due.row(1), Due.row(), Due.row(2));
            goes(x, false, "3 3", 1, 2);
            rule(x, 0, Due.row(), Due.row(4), Due.row(), Due.row());
            rule(x, 1, Due.row(), Due.row(3, 3), Due.row(), Due.row(5));
            // What has come out of the first pass stands side by side in the second one.
            goes(x, false, "5", 3, 4, 3);
        });
    }

    private static void back() {
        Said.so("Transliteration", "Back the passes are done the other way round, with target and source exchanged, rules"
                + " without a target left out.", () -> {
                    LetterTables x = new LetterTables();
                    rule(x, 0, Due.row(), Due.row(1), Due.row(), Due.row(2));
                    rule(x, 1, Due.row(), Due.row(2), Due.row(), Due.row(3));
                    goes(x, true, "1 1 1", 3, 2, 1);
                    rule(x, 0, Due.row(), Due.row(7), Due.row(), Due.row());
                    rule(x, 1, Due.row(), Due.row(8), Due.row(), Due.row());
                    goes(x, true, "7 8 1", 7, 8, 3);
                    goes(x, true, "");
                    LetterTables y = new LetterTables();
                    rule(y, 0, Due.row(), Due.row(4, 5, 6), Due.row(), Due.row(1));
                    rule(y, 0, Due.row(), Due.row(9), Due.row(), Due.row(1, 2, 3));
                    goes(y, true, "4 5 6 2 3", 1, 2, 3);
                    rule(y, 1, Due.row(5), Due.row(7), Due.row(8), Due.row(1));
                    // Ahead and behind stay what they are: what has come out, and what stands there.
                    goes(y, true, "5 7 8", 5, 1, 8);
                    goes(y, true, "8 4 5 6 5", 8, 1, 5);
                    goes(y, true, "4 5 6 8", 1, 8);
                });
    }

    private static void transliterates() {
        Said.so("30", "Transliterates a text into a slot.", () -> {
            LetterTables x = new LetterTables();
            rule(x, 0, Due.row(), Due.row(1), Due.row(), Due.row(2, 2));
            Due.write(x, 0, 1, 1);
            Due.is("into a full one", 4, () -> {
                Due.write(x, 5, Due.of(40, 9));
                return x.transliterate(0, 5, false);
            });
            Due.same("instead of what was there", "2 2 2 2", Due.read(x, 5));
            Due.same("the text stays", "1 1", Due.read(x, 0));
            Due.is("into itself", 4, () -> x.transliterate(0, 0, false));
            Due.same("into itself", "2 2 2 2", Due.read(x, 0));
            Due.is("and back", 2, () -> x.transliterate(0, 0, true));
            Due.same("and back", "1 1", Due.read(x, 0));
            x.clear(1);
            Due.is("an empty one", 0, () -> x.transliterate(1, 5, true));
            Due.is("makes it empty", 0, () -> x.at(5, N));
        });
        Said.so("30", "Returns how many letters come of it.", () -> {
            LetterTables x = new LetterTables();
            rule(x, 0, Due.row(), Due.row(1), Due.row(), Due.row(2, 2, 2));
            rule(x, 0, Due.row(), Due.row(3), Due.row(), Due.row());
            Due.write(x, 0, Due.of(14, 1, 3));
            Due.is("39", 39, () -> x.transliterate(0, 1, false));
            Due.is("13", 13, () -> x.transliterate(1, 1, true));
            Due.write(x, 0, Due.of(40, 3));
            Due.is("0", 0, () -> x.transliterate(0, 1, false));
            Due.is("40", 40, () -> x.transliterate(0, 1, true));
        });
    }

    private static void transliteratesWrong() {
        Said.so("30", "Throws IllegalStateException if a pass would put out more than 40", () -> {
            for (int pass = 0; pass < 2; pass++) {
                for (boolean isBack : new boolean[] {false, true}) {
                    LetterTables x = new LetterTables();
                    rule(x, pass, Due.row(), isBack ? Due.row(2, 2, 2) : Due.row(1), Due.row(), isBack ? Due.row(1) : Due.row(2, 2, 2));
                    Due.write(x, 1, 9);
                    Due.write(x, 0, Due.of(14, 1));
                    Due.thrown("42", Due.STATE, () -> x.transliterate(0, 1, isBack));
                    Due.thrown("42 into itself", Due.STATE, () -> x.transliterate(0, 0, isBack));
                    Due.write(x, 0, Due.of(15, 1, 7, 7));
                    Due.thrown("41", Due.STATE, () -> x.transliterate(0, 1, isBack));
                    Due.same("the target stays", "9", Due.read(x, 1));
                    Due.is("the text stays", 15, () -> x.at(0, N));
                    Due.write(x, 0, Due.of(14, 1, 7));
                    Due.is("40", 40, () -> x.transliterate(0, 1, isBack));
                    Due.thrown("no slot ahead of that", Due.INDEX, () -> x.transliterate(6, 1, isBack));
                    Due.thrown("no slot ahead of that", Due.INDEX, () -> x.transliterate(0, -1, isBack));
                }
            }
            // Even if the other pass would take letters away again.
            LetterTables x = new LetterTables();
            rule(x, 0, Due.row(), Due.row(1), Due.row(), Due.row(2, 2, 2));
            rule(x, 1, Due.row(), Due.row(2), Due.row(), Due.row());
            Due.write(x, 0, Due.of(14, 1));
            Due.thrown("42, then none", Due.STATE, () -> x.transliterate(0, 1, false));
            Due.write(x, 0, Due.of(13, 1));
            Due.is("39, then none", 0, () -> x.transliterate(0, 1, false));
            Due.write(x, 0, Due.of(40, 7, 1, 3, 3));
            Due.thrown("42, though the letters behind it are few", Due.STATE, () -> x.transliterate(0, 1, false));
        });
    }

    // ---- the encoding

    private static void decoded(int errors, String want, int... bytes) {
        LetterTables x = new LetterTables();
        for (int one : bytes) {
            x.feed(one, 1);
        }
        Due.is("errors of " + Arrays.toString(bytes), errors, () -> x.decode(0));
        Due.same("decoded " + Arrays.toString(bytes), want, Due.read(x, 0));
    }

    private static void encoded(int[] want, int... text) {
        LetterTables x = new LetterTables();
        Due.write(x, 0, text);
        Due.is("bytes of " + Arrays.toString(text), want.length, () -> x.encode(0));
        StringBuilder due = new StringBuilder();
        for (int one : want) {
            due.append((char) one);
        }
        Due.same("encoded " + Arrays.toString(text), due.toString(), Due.out(x, want.length));
        Due.is("nothing behind", 0, () -> x.word((want.length + 7) / 8));
    }

    private static void bytes() {
        Said.so("Encoding", "Bytes 32 to 95 are the letters 0 to 63 in the state 0, 32 to 63 the letters 64 to 95 in the"
                + " state 1.", () -> {
                    for (int one = 0; one < 256; one++) {
                        if (one != 14 && one != 15) {
                            boolean isLetter = one >= 32 && one <= 95;
                            decoded(isLetter ? 0 : 1, "" + (isLetter ? one - 32 : 0), one);
                            boolean isOther = one >= 32 && one <= 63;
                            decoded(isOther ? 0 : 1, "" + (isOther ? one + 32 : 0), 14, one, 15);
                        }
                    }
                    for (int letter = 0; letter < 96; letter++) {
                        encoded(letter < 64 ? Due.row(letter + 32) : Due.row(14, letter - 32, 15), letter);
                    }
                });
        Said.so("Encoding", "What is no letter when it is decoded is the letter 0, and an error", () -> {
            decoded(1, "0", 31);
            decoded(1, "0", 96);
            decoded(3, "0 0 0", 0, 255, 128);
            decoded(2, "0 95 0", 14, 31, 63, 64, 15);
            decoded(3, "0 1 0 0", 13, 33, 16, 10);
        });
    }

    private static void states() {
        Said.so("Encoding", "14 goes to the state 1, 15 to 0, from whichever", () -> {
            decoded(0, "", 15);
            decoded(0, "1", 15, 33);
            decoded(0, "65", 14, 14, 33, 15);
            decoded(0, "65 1", 14, 33, 15, 15, 33);
            decoded(0, "1 65 1 65", 33, 14, 33, 15, 33, 14, 33, 15);
            decoded(0, "", 14, 15);
        });
        Said.so("Encoding", "a text begins and ends in the state 0, and is encoded with as few bytes as can be", () -> {
            encoded(Due.row());
            encoded(Due.row(32), 0);
            encoded(Due.row(95), 63);
            encoded(Due.row(14, 32, 15), 64);
            encoded(Due.row(14, 63, 63, 15), 95, 95);
            encoded(Due.row(14, 32, 15, 95), 64, 63);
            encoded(Due.row(95, 14, 32, 15), 63, 64);
            encoded(Due.row(14, 32, 15, 32, 14, 32, 15), 64, 0, 64);
            // The state that an earlier text went to is none of the next one.
            LetterTables x = new LetterTables();
            Due.write(x, 0, 64);
            x.encode(0);
            Due.is("again", 3, () -> x.encode(0));
            x.feed(14, 1);
            x.decode(1);
            x.feed(33, 1);
            Due.is("the tape begins in the state 0", 0, () -> x.decode(1));
            Due.same("the tape begins in the state 0", "1", Due.read(x, 1));
        });
        Said.so("Encoding", "so is an end in the state 1, which gives no letter", () -> {
            decoded(1, "", 14);
            decoded(1, "", 14, 14);
            decoded(1, "65", 14, 33);
            decoded(2, "0", 14, 64);
            decoded(1, "65", 14, 33, 15, 14);
            decoded(0, "65", 14, 33, 15);
        });
    }

    private static void constants() {
        Said.so("Encoding", "NONE = -1: There is none.", () -> Due.is("NONE", -1, () -> LetterTables.NONE));
        Said.so("Encoding", "LEFT = 0, RIGHT = 1, NUMBER = 2, NEUTRAL = 3", () -> {
            int[] all = {LetterTables.LEFT, LetterTables.RIGHT, LetterTables.NUMBER, LetterTables.NEUTRAL,
                LetterTables.EMBED_LEFT, LetterTables.EMBED_RIGHT, LetterTables.POP, LetterTables.ISOLATE_LEFT,
                LetterTables.ISOLATE_RIGHT, LetterTables.ISOLATE_FIRST, LetterTables.POP_ISOLATE};
            Due.same("directions", "[0, 1, 2, 3, 4, 5, 6, 7, 8, 9, 10]", Arrays.toString(all));
        });
        Said.so("Encoding", "OTHER = 0, LETTER = 1, MARK = 2", () -> {
            int[] all = {LetterTables.OTHER, LetterTables.LETTER, LetterTables.MARK, LetterTables.BLANK,
                LetterTables.DIGIT, LetterTables.JOINER, LetterTables.SEAMLESS};
            Due.same("kinds", "[0, 1, 2, 3, 4, 5, 6]", Arrays.toString(all));
        });
        Said.so("Encoding", "ONE = 0, FEW = 1, MANY = 2", () -> {
            int[] all = {LetterTables.ONE, LetterTables.FEW, LetterTables.MANY};
            Due.same("classes", "[0, 1, 2]", Arrays.toString(all));
        });
        Said.plain("Encoding", "---- tables.", "---- texts.", "---- directions.", "---- breaks.", "---- orders, searches.",
                "---- transliteration, messages, encoding.");
    }

    // ---- promises 33 to 35

    private static void words() {
        Said.so("33", "Returns eight bytes of the out, from 8 * i on, the first one lowest", () -> {
            LetterTables x = new LetterTables();
            Due.feed(x, "ABCDEFGHIJKLMNOPQ");
            x.message(0, 0, 0, 0, 0);
            Due.is("0", 0x4847464544434241L, () -> x.word(0));
            Due.is("1", 0x504F4E4D4C4B4A49L, () -> x.word(1));
            Due.is("2", 0x51, () -> x.word(2));
            Due.feed(x, "{0}{0}{0}{0}{0}{0}{0}{0}{0}{0}{0}{0}{0}{0}{0}{0}{0}{0}{0}{0}{0}{0}{0}{0}{0}{0}{0}{0}{0}{0}{0}{0}"
                    + "{0}89");
            Due.is("200 bytes", 200, () -> x.message(0, 234567, 0, 0, 0));
            Due.is("24, the last eight", 0x3938373635343332L, () -> x.word(24));
        });
        Said.so("33", "0 for those that there are not", () -> {
            LetterTables x = new LetterTables();
            int[] beyond = {0, 1, 25, -1, -2, Integer.MAX_VALUE, Integer.MIN_VALUE};
            for (int i : beyond) {
                Due.is("of an empty out, " + i, 0, () -> x.word(i));
            }
            Due.write(x, 0, Due.of(40, 1));
            Due.is("40 bytes", 40, () -> x.encode(0));
            Due.is("4", 0x2121212121212121L, () -> x.word(4));
            // Places at which 8 * i is one of the out again, if it is counted by an int.
            int[] far = {5, 24, 25, 1000, -1, -5, Integer.MIN_VALUE, Integer.MAX_VALUE, 1 << 29, (1 << 29) + 1, 1 << 30,
                (1 << 30) + 4, -(1 << 29), 4 - (1 << 29), 3 << 29, Integer.MIN_VALUE + 2};
            for (int i : far) {
                Due.is("" + i, 0, () -> x.word(i));
            }
            Due.write(x, 0, Due.of(7, 1));
            x.encode(0);
            Due.is("7 bytes", 0x21212121212121L, () -> x.word(0));
            Due.is("none behind them", 0, () -> x.word(1));
        });
    }

    private static void encodes() {
        Said.so("34", "Puts the encoding of a text out.", () -> {
            for (int slot = 0; slot < 6; slot++) {
                int own = slot;
                LetterTables x = new LetterTables();
                Due.write(x, slot, 1, 2, 64);
                Due.is("slot", 5, () -> x.encode(own));
                Due.is("bytes", 0x0F200E2221L, () -> x.word(0));
                Due.same("the text stays", "1 2 64", Due.read(x, own));
                Due.is("the tape stays empty", 1, () -> x.feed(32, 1));
            }
        });
        Said.so("34", "Returns how many bytes the out has then.", () -> {
            LetterTables x = new LetterTables();
            Due.is("of an empty text", 0, () -> x.encode(0));
            Due.write(x, 0, Due.of(40, 1));
            Due.is("40", 40, () -> x.encode(0));
            Due.write(x, 0, Due.of(40, 95));
            Due.is("42", 42, () -> x.encode(0));
            int[] text = Due.of(40, 64);
            for (int i = 0; i < 40; i += 2) {
                text[i] = 0;
            }
            Due.write(x, 0, text);
            Due.is("80, the most", 80, () -> x.encode(0));
            Due.is("the last of them", 0x0F200E200F200E20L, () -> x.word(9));
            Due.is("no more", 0, () -> x.word(10));
        });
    }

    private static void decodes() {
        Said.so("35", "Decodes the tape into a slot.", () -> {
            LetterTables x = new LetterTables();
            Due.write(x, 5, Due.of(40, 9));
            x.feed(0x2221, 2);
            Due.is("into a full one", 0, () -> x.decode(5));
            Due.same("instead of what was there", "1 2", Due.read(x, 5));
            Due.is("an empty tape", 0, () -> x.decode(5));
            Due.is("makes it empty", 0, () -> x.at(5, N));
        });
        Said.so("35", "Returns how many errors there are.", () -> {
            LetterTables x = new LetterTables();
            for (int i = 0; i < 40; i++) {
                x.feed(255, 1);
            }
            x.feed(14, 1);
            Due.is("40 letters that are none, and the end", 41, () -> x.decode(0));
            Due.same("all of them 0", "0" + " 0".repeat(39), Due.read(x, 0));
            for (int i = 0; i < 160; i++) {
                x.feed(14 + i % 2, 1);
            }
            Due.is("none", 0, () -> x.decode(0));
            Due.is("no letters of 160 bytes", 0, () -> x.at(0, N));
        });
    }

    private static void decodesWrong() {
        Said.so("35", "Throws IllegalStateException if there would be more than 40 letters", () -> {
            LetterTables x = new LetterTables();
            Due.write(x, 0, 7);
            for (int i = 0; i < 41; i++) {
                x.feed(33, 1);
            }
            Due.thrown("no slot ahead of that", Due.INDEX, () -> x.decode(6));
            Due.thrown("41", Due.STATE, () -> x.decode(0));
            Due.same("the text stays", "7", Due.read(x, 0));
            Due.is("the tape is used up", 1, () -> x.feed(33, 1));
            for (int i = 0; i < 119; i++) {
                x.feed(i % 3 == 0 ? 33 : 15, 1);
            }
            Due.is("41 of 120 bytes, the last of them an error", 121, () -> x.feed(255, 1));
            Due.thrown("42", Due.STATE, () -> x.decode(0));
            for (int i = 0; i < 120; i++) {
                x.feed(i % 3 == 0 ? 33 : 15, 1);
            }
            Due.is("40, and 80 that are no letters", 0, () -> x.decode(0));
            Due.is("40", 40, () -> x.at(0, N));
        });
        Said.so("35", "Throws IndexOutOfBoundsException if there is no such slot", () -> {
            LetterTables x = new LetterTables();
            x.feed(0x2221, 2);
            Due.thrown("6", Due.INDEX, () -> x.decode(6));
            Due.thrown("-1", Due.INDEX, () -> x.decode(-1));
            Due.is("the tape stays", 3, () -> x.feed(0x23, 1));
            Due.is("all of it", 0, () -> x.decode(5));
            Due.same("all of it", "1 2 3", Due.read(x, 5));
        });
    }
}
