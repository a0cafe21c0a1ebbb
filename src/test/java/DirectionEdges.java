import java.util.Arrays;

/** The sentences of 'Directions', and what the promises 19 to 22 add to them. */
final class DirectionEdges {
    private static final int N = LetterTables.NONE;
    private static final int L = Directed.L, R = Directed.R, NUM = Directed.NUM, GAP = Directed.GAP, IN = Directed.IN,
            OUT = Directed.OUT, ER = Directed.ER, POP = Directed.POP, IF = Directed.IF, PI = Directed.PI,
            EL = Directed.EL, IL = Directed.IL, IR = Directed.IR, IN2 = Directed.IN2, OUT2 = Directed.OUT2;
    private static final int M = 30, J = 31;
    /** Eight frames one in another, of the levels 1 to 8, and nine, up to 9; and what levels the first eight have. */
    private static final int[] TO_8 = {ER, EL, ER, EL, ER, EL, ER, EL};
    private static final int[] TO_9 = {ER, EL, ER, EL, ER, EL, ER, EL, ER};
    private static final String AHEAD = "0 1 2 3 4 5 6 7 ";

    private DirectionEdges() {
    }

    static void all() {
        bases();
        isolates();
        frames();
        embeds();
        greatestLevels();
        isolateFrames();
        pops();
        popIsolates();
        numbers();
        partnersMatched();
        partnersNeutral();
        partnersBetween();
        partnersAhead();
        rest();
        more();
        screens();
        asked();
        sight();
    }

    private static int[] behind(int[] first, int... letters) {
        int[] all = Arrays.copyOf(first, first.length + letters.length);
        System.arraycopy(letters, 0, all, first.length, letters.length);
        return all;
    }

    private static void base(int want, int... text) {
        LetterTables x = Directed.table();
        Due.write(x, 0, text);
        Due.is("base of " + Due.read(x, 0), want, () -> x.base(0));
        Due.same("levels of " + Due.read(x, 0), Due.levels(x, 0, want), Due.levels(x, 0, N));
    }

    private static void levels(int base, String want, int... text) {
        levels(Directed.table(), base, want, text);
    }

    private static void levels(LetterTables x, int base, String want, int... text) {
        Due.write(x, 0, text);
        Due.same("levels of " + Due.read(x, 0) + " by " + base, want, Due.levels(x, 0, base));
    }

    private static void screen(int base, String want, int... text) {
        LetterTables x = Directed.table();
        Due.write(x, 0, text);
        Due.same("screen of " + Due.read(x, 0) + " by " + base, want, Due.screen(x, 0, base));
    }

    private static void bases() {
        Said.so("Directions", "is 1, if its first letter that is LEFT or RIGHT, and not within an isolate, is RIGHT", () -> {
            base(1, R);
            base(1, R, L);
            base(0, L, R);
            base(1, NUM, GAP, EL, POP, R, L);
            base(0, NUM, GAP, ER, POP, L, R);
            base(1, Due.of(40, GAP, R));
            base(0, Due.of(40, GAP, L));
            base(0, IR, R);
            base(1, IL, L, PI, R);
        });
        Said.so("Directions", "otherwise 0", () -> {
            base(0);
            base(0, GAP);
            base(0, NUM, NUM);
            base(0, ER);
            base(0, IR, PI, PI);
            base(0, Due.of(40, NUM));
        });
        Said.so("19", "Returns the base of a text, if it is not told.", () -> {
            for (int slot = 0; slot < 6; slot++) {
                int own = slot;
                LetterTables x = Directed.table();
                Due.is("of an empty text", 0, () -> x.base(own));
                x.put(own, R);
                Due.is("of a letter", 1, () -> x.base(own));
            }
        });
        Said.so("19", "Throws IndexOutOfBoundsException if there is no such slot", () -> {
            LetterTables x = Directed.table();
            Due.thrown("6", Due.INDEX, () -> x.base(6));
            Due.thrown("-1", Due.INDEX, () -> x.base(-1));
        });
    }

    private static void isolates() {
        Said.so("Directions", "An isolate reaches from one of the three ISOLATEs behind it up to the POP_ISOLATE that"
                + " closes it, or the end of the text", () -> {
                    for (int isolate : Due.row(IL, IR, IF)) {
                        base(0, isolate, R, R);
                        base(0, behind(Due.row(isolate), Due.of(39, R)));
                        base(1, isolate, L, PI, R, L);
                        base(0, isolate, R, PI, L, R);
                        base(1, isolate, PI, R);
                        base(0, isolate, L, POP, R);
                        base(1, R, isolate, L);
                    }
                    base(1, EL, R);
                    base(0, ER, L);
                });
        Said.so("Directions", "isolates are closed like brackets, and a POP_ISOLATE without one is nothing", () -> {
            base(0, IL, IR, PI, R);
            base(1, IL, IR, PI, PI, R);
            base(1, PI, R);
            base(1, PI, PI, IL, PI, PI, R, L);
            base(0, PI, IL, R);
            base(1, IL, PI, IR, PI, R);
            levels(0, "1 1 1", R, PI, R);
            levels(0, "1 0 0", R, PI, L);
            levels(1, "2 2 2", L, PI, L);
            levels(0, "0 1 1", ER, PI, R);
            levels(0, "0 1 0 1 1 1", IR, GAP, PI, R, PI, R);
        });
    }

    private static void frames() {
        Said.plain("Directions", "Letters are in frames.", "1.", "2.", "3.", "4.");
        Said.so("Directions", "The first frame has the base as its level.", () -> {
            levels(0, "0", GAP);
            levels(1, "1", GAP);
            levels(N, "0", GAP);
            levels(N, "1 1", R, GAP);
            levels(0, "1 0", R, GAP);
            levels(N, "0 0", L, GAP);
            levels(1, "2 1", L, GAP);
            levels(N, "1" + " 1".repeat(39), Due.of(40, GAP, R));
        });
        Said.so("Directions", "Each frame is found by itself, with the letters that are in it, one behind the other", () -> {
            // What is in another frame is neither ahead nor behind.
            levels(0, "1 1 2 1 2", R, ER, L, POP, NUM);
            levels(0, "0 0 2 1", L, ER, NUM, POP);
            levels(0, "1 1 1 2 1 1", R, GAP, EL, POP, GAP, R);
            levels(0, "1 1 2 1 1", R, IL, L, PI, R);
            levels(0, "0 0 1 0 0", L, IR, R, PI, L);
            levels(1, "2 2 3 2 2", L, EL, R, POP, L);
            // A frame that was gone on with behind another one.
            levels(0, "1 1 1 2 1 1 0", R, IN, EL, POP, R, OUT, L);
        });
    }

    private static void embeds() {
        Said.so("Directions", "EMBED_LEFT and EMBED_RIGHT are in the frame of then, and begin one within it, with the next"
                + " greater even, or odd, level", () -> {
                    levels(0, "0 2", EL, GAP);
                    levels(0, "0 1", ER, GAP);
                    levels(1, "1 2", EL, GAP);
                    levels(1, "1 3", ER, GAP);
                    levels(0, "0 2 4 6 8", EL, EL, EL, EL, GAP);
                    levels(0, "0 1 3 5 7 9", ER, ER, ER, ER, ER, GAP);
                    levels(0, AHEAD + "8 9", behind(TO_9, GAP));
                    // In the frame of then: they go like what stands on both sides there.
                    levels(0, "1 1 1 1", R, ER, POP, R);
                    levels(0, "1 1 2 1", R, EL, POP, R);
                    levels(1, "2 2 2 2", L, EL, POP, L);
                });
        Said.so("Directions", "or, if that one is above 9, the level of the one around", () -> {
            levels(0, AHEAD + "8", behind(TO_8, GAP));
            levels(0, AHEAD + "8 8", behind(TO_8, EL, GAP));
            levels(0, AHEAD + "8 9", behind(TO_8, ER, GAP));
            levels(0, AHEAD + "8 9", behind(TO_9, GAP));
            levels(0, AHEAD + "8 9 9", behind(TO_9, EL, GAP));
            levels(0, AHEAD + "8 9 9", behind(TO_9, ER, GAP));
            levels(0, AHEAD + "8 8 8 8 8 9", behind(TO_8, EL, EL, EL, EL, ER, GAP));
            // It is a frame all the same: it ends, and is found by itself.
            levels(0, AHEAD + "8 8 8 8 8 7", behind(TO_8, EL, GAP, POP, GAP, POP, GAP));
            levels(0, AHEAD + "9 9 8 9", behind(TO_8, R, EL, POP, R));
            levels(0, AHEAD + "8 9 9 9 9 8", behind(TO_9, ER, GAP, POP, POP, GAP));
        });
    }

    private static void greatestLevels() {
        Said.so("Directions", "or, if that one is above 9, the level of the one around", () -> {
            levels(0, AHEAD + "8 8", behind(TO_8, IL, GAP));
            levels(0, AHEAD + "8 9", behind(TO_8, IR, GAP));
            levels(0, AHEAD + "8 8", behind(TO_8, IF, L));
            levels(0, AHEAD + "8 9", behind(TO_8, IF, R));
            levels(0, AHEAD + "8 9 9", behind(TO_9, IL, GAP));
            levels(0, AHEAD + "8 9 9", behind(TO_9, IR, GAP));
            levels(0, AHEAD + "8 9 10", behind(TO_9, IF, L));
            levels(0, AHEAD + "8 9 9", behind(TO_9, IF, R));
            levels(0, AHEAD + "8 9 9 9 9 9 9", behind(TO_9, IL, IR, GAP, PI, PI, GAP));
            // As many frames as a text has room for.
            levels(1, "1 3 5 7" + " 9".repeat(36), Due.of(40, ER));
            levels(0, "0 2 4 6" + " 8".repeat(36), Due.of(40, EL));
            levels(0, "0 2 4 6" + " 8".repeat(35) + " 9", Due.of(40, EL, ER, GAP));
            levels(0, "0 1 3 5 7" + " 9".repeat(35), Due.of(40, IR));
            levels(0, "0 2 4 6" + " 8".repeat(36), Due.of(40, IF));
        });
    }

    private static void isolateFrames() {
        Said.so("Directions", "ISOLATEs likewise, by LEFT, RIGHT, or by the base that what is isolated would have by"
                + " itself", () -> {
                    levels(0, "0 2", IL, GAP);
                    levels(0, "0 1", IR, GAP);
                    levels(1, "1 2", IL, GAP);
                    levels(1, "1 3", IR, GAP);
                    levels(0, "0 2", IF, L);
                    levels(0, "0 1", IF, R);
                    levels(1, "1 2", IF, L);
                    levels(1, "1 3", IF, R);
                    levels(0, "0 2", IF, GAP);
                    levels(1, "1 2 1 1", IF, NUM, PI, R);
                    levels(0, "0", IF);
                    levels(0, "0 1 3", IF, EL, R);
                    // Neither what is behind its end, nor what is in an isolate within it.
                    levels(0, "0 0 1", IF, PI, R);
                    levels(0, "0 2 0 1", IF, GAP, PI, R);
                    levels(0, "0 2 3 2 2 0 1", IF, IR, R, PI, L, PI, R);
                    levels(0, "0 1 2 1 1", IF, IL, L, PI, R);
                    levels(0, "0 2 4", IF, IL, L);
                    levels(0, "0 1" + " 1".repeat(38), behind(Due.row(IF), Due.of(39, GAP, R)));
                });
    }

    private static void pops() {
        Said.so("Directions", "POP is in the frame of then, and ends it, if it was begun by an EMBED.", () -> {
            levels(0, "0 0", POP, GAP);
            levels(1, "1 1", POP, POP);
            levels(0, "0 1 1 0", ER, GAP, POP, GAP);
            levels(1, "1 2 2 1", EL, GAP, POP, GAP);
            levels(0, "0 1 0 0", ER, POP, POP, GAP);
            levels(0, "0 1 3 3 1 1 0", ER, ER, GAP, POP, GAP, POP, GAP);
            levels(0, "0 1 1 1", IR, POP, POP, GAP);
            levels(0, "0 2 2 2", IL, POP, POP, GAP);
            levels(0, "0 2 2 2", IF, POP, POP, GAP);
            levels(0, "0 1 3 1 1 0", IR, ER, POP, POP, GAP, PI);
        });
    }

    private static void popIsolates() {
        Said.so("Directions", "POP_ISOLATE, that closes one, ends all frames up to that which its ISOLATE began, and is in"
                + " the one around.", () -> {
                    levels(0, "0 1 0 0", IR, GAP, PI, GAP);
                    levels(0, "0 2 0 0", IL, GAP, PI, GAP);
                    levels(0, "0 2 0 0", IF, GAP, PI, GAP);
                    levels(0, "0 1 2 3 0 0", IR, EL, ER, GAP, PI, GAP);
                    levels(0, "0 1 3 1 1", ER, IR, GAP, PI, GAP);
                    levels(0, "0 1 3 1 1 0", ER, IR, EL, PI, POP, GAP);
                    levels(0, "0 1 3 4 1 1 0 0", IR, IR, EL, GAP, PI, GAP, PI, GAP);
                    levels(0, "0 0 0 0", IR, PI, PI, GAP);
                    levels(0, "0 1 1 1", ER, PI, PI, GAP);
                    levels(0, "0 1 3 5 7 9" + " 9".repeat(32) + " 0 0", behind(Due.row(IR), Due.of(39, ER, PI, GAP)));
                });
        Said.so("Directions", "What is left open ends with the text.", () -> {
            LetterTables x = Directed.table();
            levels(x, 0, "0 1 3 4", ER, IR, EL, L);
            levels(x, 0, "0 0", GAP, PI);
            levels(x, 0, "0 0", POP, GAP);
            levels(x, 0, "0 0 0", L, IN, IN2);
            levels(x, 0, "0 0 1 0 1 0 0", L, IN, R, OUT, R, OUT, L);
            levels(x, 0, "1 1 1 0 0", R, OUT2, R, OUT, L);
            levels(x, 0, "0 1 0 1 0", ER, POP, ER, POP, GAP);
            levels(x, 0, "0 1 0 0 0 0", IR, GAP, PI, GAP, PI, GAP);
            // Each asked for first behind what was left open.
            LetterTables y = Directed.table();
            int[] due = {0, 0, 1, 0, 1, 0, 0};
            for (int i = 0; i < due.length; i++) {
                int place = i;
                Due.write(y, 0, L, IN, IN2, ER, IR);
                y.level(0, 0, 0);
                Due.write(y, 0, L, IN, R, OUT, R, OUT, L);
                Due.is("level of " + place, due[i], () -> y.level(0, place, 0));
            }
        });
    }

    private static void numbers() {
        Said.so("Directions", "A NUMBER goes left, if the last LEFT or RIGHT ahead of it in the frame is LEFT, or there is"
                + " none and the level is even", () -> {
                    levels(0, "0", NUM);
                    levels(0, "0 0", L, NUM);
                    levels(0, "0 0 0 0", L, GAP, NUM, NUM);
                    levels(0, "1 0 0", R, L, NUM);
                    levels(1, "2 2", L, NUM);
                    levels(1, "1 2 2 2", R, L, NUM, L);
                    levels(0, "0 2", EL, NUM);
                    levels(0, "0" + " 0".repeat(39), Due.of(40, NUM));
                    levels(1, "2" + " 2".repeat(39), behind(Due.row(L), Due.of(39, NUM)));
                    // A row that goes left by the level 1: what is neutral among numbers shows that they went left.
                    levels(1, "2 2 2 2", L, NUM, GAP, L);
                    levels(1, "2 1 1", NUM, GAP, R);
                });
        Said.so("Directions", "otherwise it stays a number", () -> {
            levels(0, "1 2", R, NUM);
            levels(0, "0 1 2", L, R, NUM);
            levels(0, "1 1 2", R, GAP, NUM);
            levels(1, "2 1 2", NUM, R, NUM);
            levels(1, "2 1", NUM, GAP);
            levels(0, "0 2", ER, NUM);
            levels(0, "1" + " 2".repeat(39), behind(Due.row(R), Due.of(39, NUM)));
            levels(1, "2" + " 2".repeat(39), Due.of(40, NUM));
        });
    }

    private static void partnersMatched() {
        Said.so("Directions", "matched by a row of open ones (a closing one closes the last open one of its pair, and those"
                + " opened behind that are none)", () -> {
                    levels(0, "1 1 1 1 0", R, IN, R, OUT, L);
                    levels(0, "1 1 1 0 0", R, OUT, R, IN, L);
                    levels(0, "0 0 1 1 1 1 0", L, IN, R, IN, R, OUT, L);
                    levels(0, "1 1 1 1 1 0 0", R, IN, IN2, R, OUT, OUT2, L);
                    levels(0, "1 1 1 1 1 0", R, IN, OUT2, R, OUT, L);
                    levels(0, "1 1 1 1 1 0 0", R, IN, R, OUT, R, OUT, L);
                    // As many as a text has room for.
                    int[] ins = behind(Due.row(R), Due.of(19, IN));
                    levels(0, "1" + " 1".repeat(39), behind(behind(ins, R), Due.of(19, OUT)));
                    levels(0, "1" + " 1".repeat(38) + " 0", behind(behind(ins, R), Due.of(19, OUT, OUT2)));
                });
    }

    private static void partnersNeutral() {
        Said.so("Directions", "NEUTRAL partners that open and close", () -> {
            LetterTables x = Directed.table();
            levels(x, 0, "0 0 1 0 1", L, IN, R, OUT, R);
            x.letter(OUT, 0, LetterTables.POP, LetterTables.OTHER, OUT);
            levels(x, 0, "0 0 1 1 1", L, IN, R, OUT, R);
            x.letter(OUT, 0, LetterTables.NUMBER, LetterTables.OTHER, OUT);
            levels(x, 0, "0 0 1 2 1", L, IN, R, OUT, R);
            x.letter(OUT, 0, LetterTables.POP_ISOLATE, LetterTables.OTHER, OUT);
            levels(x, 0, "0 0 1 1 1", L, IN, R, OUT, R);
            x.letter(OUT, 0, LetterTables.NEUTRAL, LetterTables.OTHER, OUT);
            levels(x, 0, "1 1 1 1 0", R, IN, R, OUT, L);
            x.letter(IN, 0, LetterTables.POP, LetterTables.OTHER, IN);
            levels(x, 0, "1 1 1 0 0", R, IN, R, OUT, L);
            x.letter(IN, 0, LetterTables.RIGHT, LetterTables.OTHER, IN);
            levels(x, 0, "1 1 1 0 0", R, IN, R, OUT, L);
            x.letter(IN, 0, LetterTables.NEUTRAL, LetterTables.OTHER, IN);
            levels(x, 0, "1 1 1 1 0", R, IN, R, OUT, L);
            // In frames of their own they are none.
            levels(x, 0, "1 1 1 0 1 1 0", R, IN, R, ER, OUT, POP, L);
            levels(x, 0, "1 0 1 1 1 0 0 0", R, IR, IN, R, POP, PI, OUT, L);
        });
    }

    private static void partnersBetween() {
        Said.so("Directions", "by the opening ones, from the first one on: with b the way of the level (even: left): if"
                + " something between them goes b, numbers being right, both go b", () -> {
                    levels(0, "1 0 0 0 1", R, IN, L, OUT, R);
                    levels(0, "1 0 1 0 0 1", R, IN, R, L, OUT, R);
                    levels(1, "2 1 1 1 2", L, IN, R, OUT, L);
                    levels(1, "2 1 2 1 1 2", L, IN, L, R, OUT, L);
                    levels(0, "1 0 0 0 0 0 0 0 1", R, IN, GAP, IN2, L, OUT2, GAP, OUT, R);
                    // A number is right, but one that has gone left is left.
                    levels(0, "1 1 2 1 0", R, IN, NUM, OUT, L);
                    levels(1, "2 2 2 2 1", L, IN, NUM, OUT, R);
                    levels(1, "1 2 1 2", IN, NUM, OUT, L);
                    levels(0, "1 1 1 2 1 0", R, IN, GAP, NUM, OUT, L);
                    // What is in another frame does not stand between them.
                    levels(0, "1 1 1 2 1 1 1", R, IN, ER, L, POP, OUT, R);
                    levels(0, "1 1 1 2 1 1 1", R, IN, IL, L, PI, OUT, R);
                });
        Said.so("Directions", "otherwise they stay neutral", () -> {
            levels(0, "1 1 1 1 1", R, IN, GAP, OUT, R);
            levels(0, "1 1 1 1", R, IN, OUT, R);
            levels(0, "1 0 0 0", R, IN, OUT, L);
            levels(1, "2 2 2 2", L, IN, OUT, L);
            levels(1, "2 1 1 1", L, IN, OUT, R);
            levels(0, "1 1 1 1 1 1", R, IN, IN2, OUT2, OUT, R);
        });
    }

    private static void partnersAhead() {
        Said.so("Directions", "otherwise, if something goes the other way: that way, if what goes last ahead of them,"
                + " partners that were found ahead with it, goes so, b otherwise, or if there is none", () -> {
                    levels(0, "1 1 1 1 0", R, IN, R, OUT, L);
                    levels(0, "0 0 1 0 1", L, IN, R, OUT, R);
                    levels(1, "2 2 2 2 1", L, IN, L, OUT, R);
                    levels(1, "1 1 2 1 2", R, IN, L, OUT, L);
                    // None ahead.
                    levels(0, "0 1 0 1", IN, R, OUT, R);
                    levels(1, "1 2 1 2", IN, L, OUT, L);
                    levels(0, "0 0 1 0 1", GAP, IN, R, OUT, R);
                    // The last one, not the first one.
                    levels(0, "0 1 1 1 1 0", L, R, IN, R, OUT, L);
                    levels(0, "1 0 0 1 0 1", R, L, IN, R, OUT, R);
                    levels(0, "1 1 1 1 1 0", R, GAP, IN, R, OUT, L);
                    levels(0, "0 0 0 1 0 1", L, NUM, IN, R, OUT, R);
                });
        Said.so("Directions", "partners that were found ahead with it", () -> {
            levels(0, "1 1 1 1 1 1 1 0", R, IN, R, OUT, IN2, R, OUT2, L);
            levels(0, "1 0 0 1 0 0 1 0 0", R, IN, L, R, OUT, IN2, R, OUT2, L);
            levels(0, "1 1 1 1 1 1 0", R, IN, IN2, R, OUT2, OUT, L);
            levels(0, "1 0 0 1 0 0 0 1", R, IN, IN2, R, OUT2, L, OUT, R);
            // Those that stay neutral do not go.
            levels(0, "1 1 1 1 1 1 0", R, IN, OUT, IN2, R, OUT2, L);
            // Those that are within them are found behind them.
            levels(0, "0 0 0 1 0 1 0 1", L, IN, IN2, R, OUT2, R, OUT, R);
            // A number is right here too.
            levels(0, "1 0 0 1 0 2 1 1 1 0", R, IN, L, R, OUT, NUM, IN2, R, OUT2, L);
        });
    }

    private static void rest() {
        Said.so("Directions", "All that is neither LEFT, RIGHT nor a number by now goes like what stands on both sides of"
                + " it (numbers being right, the way of the level at both ends), if these are alike, otherwise by the"
                + " level", () -> {
                    levels(0, "1 1 1", R, GAP, R);
                    levels(0, "0 0 0", L, GAP, L);
                    levels(1, "2 2 2", L, GAP, L);
                    levels(0, "0 0 1", L, GAP, R);
                    levels(0, "1 0 0", R, GAP, L);
                    levels(1, "2 1 1", L, GAP, R);
                    levels(1, "1 1 2", R, GAP, L);
                    levels(0, "1 1 1", R, POP, R);
                    levels(0, "1" + " 1".repeat(39), behind(Due.row(R), Due.of(39, GAP, R)));
                    levels(1, "2" + " 2".repeat(39), behind(Due.row(L), Due.of(39, GAP, L)));
                    levels(1, "2" + " 1".repeat(39), behind(Due.row(L), Due.of(39, GAP, R)));
                });
        Said.so("Directions", "numbers being right, the way of the level at both ends", () -> {
            levels(0, "1 2 1 1", R, NUM, GAP, R);
            levels(0, "1 1 2", R, GAP, NUM);
            levels(0, "1 2 0", R, NUM, GAP);
            levels(1, "2 1 1", NUM, GAP, R);
            levels(0, "0 1 0", GAP, R, GAP);
            levels(0, "0 0 0", GAP, L, GAP);
            levels(1, "1 2 1", GAP, L, GAP);
            levels(1, "1 1 1", GAP, R, GAP);
            levels(0, "0 1 1 0", ER, GAP, POP, GAP);
            levels(0, "0 1 2 1 0", IR, GAP, L, GAP, PI);
            levels(1, "1 2 3 2 1", IL, GAP, R, GAP, PI);
        });
    }

    private static void more() {
        Said.so("Directions", "On an even level what goes right is 1 more, and numbers are 2 more", () -> {
            levels(0, "0 1 2", L, R, NUM);
            levels(0, "0 2 3 4", EL, L, R, NUM);
            levels(0, AHEAD + "8 9 10", behind(TO_8, L, R, NUM));
        });
        Said.so("Directions", "on an odd level what goes left, and numbers, are 1 more", () -> {
            levels(1, "1 2 2", R, L, NUM);
            levels(1, "1 2", R, NUM);
            levels(0, "0 1 2 1 2", ER, R, L, R, NUM);
            levels(0, AHEAD + "8 9 10 10", behind(TO_9, R, L, NUM));
            levels(0, AHEAD + "8 10", behind(TO_9, NUM));
        });
    }

    private static void screens() {
        Said.so("Directions", "The order on the screen: from the greatest level down to 1, each longest row of letters side"
                + " by side with this level or more is turned around", () -> {
                    screen(0, "0", L);
                    screen(0, "0", R);
                    screen(0, "0 1 2", L, GAP, L);
                    screen(0, "2 1 0", R, R, R);
                    screen(0, "0 2 1 3 5 4", L, R, R, L, R, R);
                    screen(1, "1 2 0", R, L, L);
                    screen(1, "1 0", L, R);
                    screen(0, "0 4 2 3 1 5", L, R, NUM, NUM, R, L);
                    screen(0, "0 2 4 6 9 10 8 7 5 3 1", behind(TO_8, R, NUM, NUM));
                    StringBuilder turned = new StringBuilder("39");
                    for (int i = 38; i >= 0; i--) {
                        turned.append(' ').append(i);
                    }
                    screen(0, turned.toString(), Due.of(40, R));
                    screen(N, turned.toString(), Due.of(40, GAP, R));
                });
    }

    private static void asked() {
        Said.so("20", "Returns the level of a letter.", () -> {
            LetterTables x = Directed.table();
            Due.write(x, 5, Due.of(40, GAP, R));
            Due.is("the first", 1, () -> x.level(5, 0, N));
            Due.is("the last", 1, () -> x.level(5, 39, N));
            Due.is("the last but one by 0", 0, () -> x.level(5, 38, 0));
            Due.thrown("behind the last", Due.INDEX, () -> x.level(5, 40, N));
            Due.thrown("NONE", Due.INDEX, () -> x.level(5, N, N));
            Due.thrown("of an empty text", Due.INDEX, () -> x.level(4, 0, N));
            Due.thrown("of an empty text, base out of range", Due.INDEX, () -> x.level(4, 0, 2));
        });
        Said.so("20", "base: 0, 1, or NONE: not told", () -> {
            LetterTables x = Directed.table();
            Due.write(x, 0, R, L);
            Due.same("0", "1 0", Due.levels(x, 0, 0));
            Due.same("1", "1 2", Due.levels(x, 0, 1));
            Due.same("not told", "1 2", Due.levels(x, 0, N));
            Due.write(x, 0, L, R);
            Due.same("not told", "0 1", Due.levels(x, 0, N));
        });
        Said.so("21", "Returns the place in the text of the letter that is shown at a place, 0 at the very left.", () -> {
            LetterTables x = Directed.table();
            Due.write(x, 0, L, R, R);
            Due.is("at the very left", 0, () -> x.shown(0, 0, N));
            Due.is("at the very right", 1, () -> x.shown(0, 2, N));
            Due.thrown("further right", Due.INDEX, () -> x.shown(0, 3, N));
            Due.thrown("NONE", Due.INDEX, () -> x.shown(0, N, N));
            Due.thrown("of an empty text", Due.INDEX, () -> x.shown(1, 0, N));
            Due.thrown("of an empty text, base out of range", Due.INDEX, () -> x.shown(1, 0, -2));
        });
        Said.so("21", "base: 0, 1, or NONE", () -> {
            LetterTables x = Directed.table();
            Due.write(x, 0, R, L);
            Due.same("0", "0 1", Due.screen(x, 0, 0));
            Due.same("1", "1 0", Due.screen(x, 0, 1));
            Due.same("not told", "1 0", Due.screen(x, 0, N));
        });
    }

    private static void sight(LetterTables x, int place, int right, int left) {
        Due.is("right of " + place + " in " + Due.read(x, 0), right, () -> x.bySight(0, place, true));
        Due.is("left of " + place + " in " + Due.read(x, 0), left, () -> x.bySight(0, place, false));
    }

    private static LetterTables marked(int... text) {
        LetterTables x = Directed.table();
        x.letter(M, 0, LetterTables.NEUTRAL, LetterTables.MARK, M);
        x.letter(J, 0, LetterTables.NEUTRAL, LetterTables.JOINER, J);
        Due.write(x, 0, text);
        return x;
    }

    private static void sight() {
        Said.so("22", "from a letter to the first one to the right, or left, on the screen that begins a cluster", () -> {
            LetterTables x = marked(L, M, M, L);
            sight(x, 0, 3, N);
            sight(x, 1, 3, 0);
            sight(x, 2, 3, 0);
            sight(x, 3, N, 0);
            // On the screen: 3 2 1 0.
            LetterTables y = marked(R, M, R, L);
            sight(y, 0, N, 2);
            sight(y, 1, 0, 2);
            sight(y, 2, 0, 3);
            sight(y, 3, 2, N);
            LetterTables z = marked(L, J, L, L);
            sight(z, 0, 1, N);
            sight(z, 2, 3, 1);
        });
        Said.so("22", "Moves a cursor by sight, with a base that is not told", () -> {
            LetterTables x = marked(R, GAP);
            sight(x, 0, N, 1);
            sight(x, 1, 0, N);
            LetterTables y = marked(GAP, R);
            sight(y, 0, N, 1);
        });
        Said.so("22", "Returns its place in the text", () -> {
            LetterTables x = marked(Due.of(40, L));
            sight(x, 0, 1, N);
            sight(x, 39, N, 38);
            LetterTables y = marked(Due.of(40, R));
            sight(y, 0, N, 1);
            sight(y, 39, 38, N);
        });
        Said.so("22", "NONE if there is none.", () -> {
            sight(marked(L), 0, N, N);
            sight(marked(R), 0, N, N);
            // The first letter begins a cluster, even if it is a mark.
            LetterTables x = marked(M, M, M);
            sight(x, 0, N, N);
            sight(x, 1, N, 0);
            sight(x, 2, N, 0);
            Due.thrown("behind the last", Due.INDEX, () -> x.bySight(0, 3, true));
            Due.thrown("ahead of the first", Due.INDEX, () -> x.bySight(0, -1, false));
            Due.thrown("of an empty text", Due.INDEX, () -> x.bySight(1, 0, true));
        });
    }
}
