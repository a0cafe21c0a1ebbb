/** The sentences of 'Messages', and what the promises 31 and 32 add to them. */
final class MessageEdges {
    private static final int N = LetterTables.NONE;
    private static final int ONE = LetterTables.ONE, FEW = LetterTables.FEW, MANY = LetterTables.MANY;

    private MessageEdges() {
    }

    static void all() {
        pieces();
        piecesWrong();
        cases();
        digits();
        numbers();
        choices();
        choicesByClass();
        choicesInOneAnother();
        classes();
        ranges();
        classOf();
        messages();
        messagesRefused();
        first200();
    }

    private static LetterTables counted() {
        LetterTables x = new LetterTables();
        x.plural(0, ONE, 10, 1, 1, 100, 11, 11);
        x.plural(0, FEW, 10, 2, 4, 100, 12, 14);
        x.plural(0, MANY, 10, 0, 4, 0, 0, 0);
        x.plural(1, FEW, 100, 0, 0, 0, 0, 0);
        return x;
    }

    private static void message(LetterTables x, String tape, String want, int... numbers) {
        Due.feed(x, tape);
        Due.is("'" + tape + "'", want.length(), () -> x.message(0, numbers[0], numbers[1], numbers[2], numbers[3]));
        Due.same("'" + tape + "'", want, Due.out(x, want.length()));
        Due.is("'" + tape + "', behind it", 0, () -> x.word((want.length() + 7) / 8));
    }

    private static void isNone(String tape) {
        LetterTables x = counted();
        Due.feed(x, "kept");
        x.message(0, 0, 0, 0, 0);
        Due.feed(x, tape);
        Due.thrown("'" + tape + "'", Due.STATE, () -> x.message(0, 1, 1, 1, 1));
        Due.same("the out stays", "kept", Due.out(x, 8).substring(0, 4));
        Due.is("the tape is used up", 1, () -> x.feed('.', 1));
    }

    private static void pieces() {
        Said.so("Messages", "message = { piece }", () -> {
            LetterTables x = counted();
            message(x, "", "", 0, 0, 0, 0);
            message(x, "a", "a", 0, 0, 0, 0);
            message(x, "{0}{1}a{2}", "12a3", 1, 2, 3, 4);
            message(x, "", "", 0, 0, 0, 0);
        });
        Said.so("Messages", "piece = a byte from 32 to 126 but { | }", () -> {
            for (int one = 0; one < 256; one++) {
                String tape = "" + (char) one;
                if (one < 32 || one > 126 || one == '{' || one == '|' || one == '}') {
                    isNone(tape);
                    isNone("{0:x=" + tape + (one == '|' || one == '}' ? "}}" : "}"));
                } else {
                    LetterTables x = counted();
                    message(x, tape, tape, 0, 0, 0, 0);
                    message(x, "{0:x=" + tape + "}", tape, 0, 0, 0, 0);
                }
            }
        });
    }

    private static void piecesWrong() {
        Said.so("Messages", "\"{\" digit \"}\" | \"{\" digit \":\" case { \"|\" case } \"}\"", () -> {
            String[] all = {"{", "{}", "{0", "{00}", "{0 }", "{ 0}", "{a}", "{:}", "{0:", "{0:}", "{0:o", "{0:o}", "{0:o=",
                "{0:o=a", "{0:o=a|", "{0:o=a|}", "{0:o=a|f", "{0:o=a|f}", "{0:o=a||x=b}", "{0:|o=a}", "{0::o=a}", "{0o=a}",
                "{:x=a}", "{{0}}", "{0}}", "}{0}", "a|b", "{0:o=a}|", "{0:o=a}}", "{0:o={0}", "{0:o=a|x={1}", "{x=a}"};
            for (String one : all) {
                isNone(one);
            }
        });
    }

    private static void cases() {
        Said.so("Messages", "case = key \"=\" message", () -> {
            LetterTables x = counted();
            message(x, "{0:x=}", "", 0, 0, 0, 0);
            message(x, "{0:x=|o=a}", "", 0, 0, 0, 0);
            message(x, "{0:x==}", "=", 0, 0, 0, 0);
            message(x, "{0:x=a{1}b{2}}", "a5b6", 0, 5, 6, 0);
            isNone("{0:x}");
            isNone("{0:x:a}");
            isNone("{0:=a}");
            isNone("{0:xa=b}");
            isNone("{0:x={}}");
            isNone("{0:x=\u001f}");
            // What is not chosen has to be a message too.
            isNone("{0:x=a|o={}}");
            isNone("{0:f=\u007f|x=a}");
            isNone("{0:f={4}|x=a}");
        });
        Said.so("Messages", "key = \"o\" | \"f\" | \"m\" | \"x\" | \"#\" digit", () -> {
            for (char key = 32; key < 127; key++) {
                if ("ofmx".indexOf(key) >= 0) {
                    message(counted(), "{0:" + key + "=a|x=a}", "a", 0, 0, 0, 0);
                } else {
                    isNone("{0:" + key + "=a}");
                    isNone("{0:x=a|" + key + "=b}");
                }
            }
            isNone("{0:#=a}");
            isNone("{0:#12=a}");
            isNone("{0:#a=a}");
            isNone("{0:##1=a}");
            isNone("{0:oo=a}");
            isNone("{0:1=a}");
        });
    }

    private static void digits() {
        Said.so("Messages", "all digits here are from 0 to 3", () -> {
            LetterTables x = counted();
            message(x, "{0}{1}{2}{3}", "5678", 5, 6, 7, 8);
            message(x, "{0:#0=a|#1=b|#2=c|#3=d}", "a", 0, 1, 1, 1);
            message(x, "{1:#0=a|#1=b|#2=c|#3=d}", "b", 0, 1, 2, 3);
            message(x, "{2:#0=a|#1=b|#2=c|#3=d}", "c", 0, 1, 2, 3);
            message(x, "{3:#0=a|#1=b|#2=c|#3=d}", "d", 0, 1, 2, 3);
            for (String digit : new String[] {"4", "5", "9", "/", ":", "-1", "a"}) {
                isNone("{" + digit + "}");
                isNone("{" + digit + ":x=a}");
                isNone("{0:#" + digit + "=a}");
                isNone("{0:x=a|#" + digit + "=b}");
            }
        });
    }

    private static void numbers() {
        Said.so("Messages", "{d} is the number d", () -> {
            int[] all = {0, 1, 9, 10, 11, 99, 100, 101, 1000, 9999, 10000, 99999, 100000, 100001, 999999};
            for (int number : all) {
                LetterTables x = counted();
                message(x, "{0}", "" + number, number, 7, 7, 7);
                message(x, "<{3}>", "<" + number + ">", 7, 7, 7, number);
                message(x, "{0:x={1}{2}}", number + "7", 7, number, 7, 7);
            }
        });
    }

    private static void choices() {
        Said.so("Messages", "a choice is the first case that fits the number d: # by itself", () -> {
            LetterTables x = counted();
            message(x, "{0:#1=a|o=b|x=c}", "a", 1, 0, 0, 0);
            message(x, "{0:o=b|#1=a|x=c}", "b", 1, 0, 0, 0);
            message(x, "{0:x=c|#1=a|o=b}", "c", 1, 0, 0, 0);
            message(x, "{0:#3=a|x=b}", "a", 3, 0, 0, 0);
            message(x, "{0:#3=a|x=b}", "b", 13, 0, 0, 0);
            message(x, "{0:#3=a|x=b}", "b", 4, 0, 0, 0);
            message(x, "{0:#0=a|x=b}", "a", 0, 0, 0, 0);
            message(x, "{0:#0=a|x=b}", "b", 10, 0, 0, 0);
            message(x, "{0:#1=a|#1=b}", "a", 1, 0, 0, 0);
            message(x, "{0:#1=|#1=b|x=c}", "", 1, 0, 0, 0);
        });
        Said.so("Messages", "nothing if none fits", () -> {
            LetterTables x = counted();
            message(x, "{0:#1=a}", "", 2, 0, 0, 0);
            message(x, "<{0:o=a|f=b|m=c}>", "<>", 5, 0, 0, 0);
            message(x, "{0:#0=a|#1=b|#2=c|#3=d}", "", 4, 0, 0, 0);
            message(x, "{0:#1={0:x=a}}b", "b", 2, 0, 0, 0);
        });
    }

    private static void choicesByClass() {
        Said.so("Messages", "o, f and m if that is its class in the language, x always", () -> {
            int[] numbers = {1, 2, 11, 5, 999999, 999991};
            String[] ofEach = {"o", "f", "m", "", "", "o"};
            for (int i = 0; i < numbers.length; i++) {
                LetterTables x = counted();
                message(x, "{0:o=o|f=f|m=m}", ofEach[i], numbers[i], 0, 0, 0);
                message(x, "{0:m=m|f=f|o=o}", ofEach[i], numbers[i], 0, 0, 0);
                message(x, "{0:x=x|m=m|f=f|o=o}", "x", numbers[i], 0, 0, 0);
                message(x, "{1:o=o|f=f|m=m|x=x}", ofEach[i].isEmpty() ? "x" : ofEach[i], 9, numbers[i], 9, 9);
            }
            LetterTables x = counted();
            Due.feed(x, "{0:o=o|f=f|m=m|x=x}");
            Due.is("in the other language", 1, () -> x.message(1, 100, 0, 0, 0));
            Due.is("in the other language", 'f', () -> x.word(0));
            Due.feed(x, "{0:o=o|f=f|m=m|x=x}");
            Due.is("in the other language", 1, () -> x.message(1, 1, 0, 0, 0));
            Due.is("in the other language", 'x', () -> x.word(0));
            // Each of the four by its own class.
            message(x, "{0:o=o|f=f}{1:o=o|f=f}{2:m=m|f=f}{3:x=x|f=f}", "ofmx", 1, 2, 0, 2);
        });
    }

    private static String within(int depth) {
        return "{0:x=".repeat(depth) + "a" + "}".repeat(depth);
    }

    private static void choicesInOneAnother() {
        Said.so("Messages", "At most 6 choices stand in one another.", () -> {
            LetterTables x = counted();
            message(x, within(6), "a", 0, 0, 0, 0);
            message(x, within(6) + within(6) + within(6), "aaa", 0, 0, 0, 0);
            message(x, within(1).repeat(22), "a".repeat(22), 0, 0, 0, 0);
            message(x, "{0:x=" + within(5) + within(5) + "{0}}", "aa7", 7, 0, 0, 0);
            message(x, within(6).replace("a", "{1}"), "8", 7, 8, 0, 0);
            isNone(within(7));
            isNone(within(8));
            isNone(within(20));
            isNone("{0:x=" + within(6) + "}");
            isNone("{0:x=a|o=" + within(6) + "}");
            isNone("{0:#3=" + within(6) + "|x=a}");
            isNone(within(6) + within(7));
            isNone("{0:x=".repeat(31));
        });
    }

    private static void classes() {
        Said.so("Messages", "The class of a number is that of the first plural rule of the language that fits, otherwise x",
                () -> {
                    LetterTables x = new LetterTables();
                    Due.is("no rules", N, () -> x.classOf(0, 0));
                    x.plural(0, MANY, 100, 50, 59, 0, 0, 0);
                    x.plural(0, ONE, 10, 5, 9, 0, 0, 0);
                    x.plural(0, FEW, 1, 0, 0, 2, 1, 1);
                    Due.is("the first and the second: 55", MANY, () -> x.classOf(0, 55));
                    Due.is("the first and the third: 50", MANY, () -> x.classOf(0, 50));
                    Due.is("the second and the third: 6", ONE, () -> x.classOf(0, 6));
                    Due.is("the third: 2", FEW, () -> x.classOf(0, 2));
                    Due.is("none: 1", N, () -> x.classOf(0, 1));
                    x.plural(0, MANY, 1, 0, 0, 0, 0, 0);
                    Due.is("the fourth: 1", MANY, () -> x.classOf(0, 1));
                    Due.is("the other language", N, () -> x.classOf(1, 1));
                });
        Said.so("Messages", "at most 4 are told in each", () -> {
            LetterTables x = new LetterTables();
            for (int i = 0; i < 4; i++) {
                int value = i;
                Due.is("in 0", i + 1, () -> x.plural(0, ONE, 100, value, value, 0, 0, 0));
                Due.is("in 1", i + 1, () -> x.plural(1, FEW, 100, 10 + value, 10 + value, 0, 0, 0));
            }
            Due.thrown("a fifth in 0", Due.STATE, () -> x.plural(0, ONE, 1, 0, 0, 0, 0, 0));
            Due.thrown("a fifth in 1", Due.STATE, () -> x.plural(1, ONE, 1, 0, 0, 0, 0, 0));
            Due.is("the fourth of 0", ONE, () -> x.classOf(0, 3));
            Due.is("no fifth", N, () -> x.classOf(0, 4));
            Due.is("the fourth of 1", FEW, () -> x.classOf(1, 13));
        });
    }

    private static LetterTables ruled(int modulo, int from, int to, int other, int otherFrom, int otherTo) {
        LetterTables x = new LetterTables();
        x.plural(0, ONE, modulo, from, to, other, otherFrom, otherTo);
        return x;
    }

    private static void ranges() {
        Said.so("Messages", "it fits, if the number modulo m is in the range, and, modulo the other number, not in the other"
                + " range", () -> {
                    LetterTables x = ruled(10, 2, 4, 100, 12, 14);
                    int[] fit = {2, 3, 4, 22, 24, 102, 104, 999992, 111 + 11};
                    int[] not = {0, 1, 5, 9, 11, 12, 13, 14, 15, 21, 25, 112, 114, 999912, 999999};
                    for (int number : fit) {
                        Due.is("fits " + number, ONE, () -> x.classOf(0, number));
                    }
                    for (int number : not) {
                        Due.is("does not fit " + number, N, () -> x.classOf(0, number));
                    }
                    LetterTables y = ruled(1, 0, 0, 0, 0, 0);
                    Due.is("modulo 1: 0", ONE, () -> y.classOf(0, 0));
                    Due.is("modulo 1: 999999", ONE, () -> y.classOf(0, 999999));
                    LetterTables z = ruled(1, 1, 99, 0, 0, 0);
                    Due.is("never by 1", N, () -> z.classOf(0, 1));
                    LetterTables none = ruled(1, 0, 0, 1, 0, 0);
                    Due.is("never by the other number", N, () -> none.classOf(0, 7));
                    LetterTables all = ruled(1, 0, 0, 1, 1, 99);
                    Due.is("always by the other number", ONE, () -> all.classOf(0, 7));
                    LetterTables most = ruled(100, 99, 99, 100, 0, 98);
                    Due.is("99", ONE, () -> most.classOf(0, 99));
                    Due.is("98", N, () -> most.classOf(0, 98));
                    Due.is("100", N, () -> most.classOf(0, 100));
                    Due.is("999999", ONE, () -> most.classOf(0, 999999));
                });
        Said.so("Messages", "a rule has a class, o, f or m, a number m from 1 to 100", () -> {
            for (int itsClass : new int[] {ONE, FEW, MANY}) {
                LetterTables x = new LetterTables();
                x.plural(1, itsClass, 100, 0, 99, 0, 0, 0);
                Due.is("class " + itsClass, itsClass, () -> x.classOf(1, 5));
            }
            LetterTables x = new LetterTables();
            Due.thrown("class -1", Due.ARGUMENT, () -> x.plural(0, -1, 1, 0, 0, 0, 0, 0));
            Due.thrown("class 3", Due.ARGUMENT, () -> x.plural(0, 3, 1, 0, 0, 0, 0, 0));
            Due.thrown("modulo 0", Due.ARGUMENT, () -> x.plural(0, 0, 0, 0, 0, 0, 0, 0));
            Due.thrown("modulo 101", Due.ARGUMENT, () -> x.plural(0, 0, 101, 0, 0, 0, 0, 0));
            Due.thrown("other 101", Due.ARGUMENT, () -> x.plural(0, 0, 1, 0, 0, 101, 0, 0));
            Due.thrown("other -1", Due.ARGUMENT, () -> x.plural(0, 0, 1, 0, 0, -1, 0, 0));
            Due.is("none of them is told", 1, () -> x.plural(0, 0, 1, 0, 0, 0, 0, 0));
        });
    }

    private static void classOf() {
        Said.so("31", "Returns the class of a number: ONE to MANY", () -> {
            LetterTables x = counted();
            Due.is("ONE", ONE, () -> x.classOf(0, 1));
            Due.is("FEW", FEW, () -> x.classOf(0, 2));
            Due.is("MANY", MANY, () -> x.classOf(0, 0));
            Due.is("by a later rule", MANY, () -> x.classOf(0, 11));
            Due.is("in the other language", FEW, () -> x.classOf(1, 0));
        });
        Said.so("31", "NONE if no rule fits.", () -> {
            LetterTables x = counted();
            Due.is("5", N, () -> x.classOf(0, 5));
            Due.is("999999", N, () -> x.classOf(0, 999999));
            LetterTables y = new LetterTables();
            Due.is("no rules", N, () -> y.classOf(0, 0));
            Due.is("no rules", N, () -> y.classOf(1, 999999));
        });
    }

    // ---- promise 32

    private static void messages() {
        Said.so("32", "Puts the message on the tape out, with numbers.", () -> {
            LetterTables x = counted();
            message(x, "{0} {1} {2} {3}", "0 999999 0 999999", 0, 999999, 0, 999999);
            message(x, "a", "a", 0, 0, 0, 0);
            Due.is("an empty tape", 0, () -> x.message(1, 1, 2, 3, 4));
            Due.is("an empty out", 0, () -> x.word(0));
        });
        for (String words : new String[] {"one: 0 to 999999: the number 0", "two: likewise 1", "three: likewise 2",
            "four: likewise 3"}) {
            int which = words.charAt(words.length() - 1) - '0';
            Said.so("32", words, () -> {
                LetterTables x = counted();
                int[] n = {11, 12, 13, 14};
                n[which] = 0;
                message(x, "{" + which + "}", "0", n);
                n[which] = 999999;
                message(x, "{" + which + "}", "999999", n);
                Due.feed(x, "a");
                for (int wrong : new int[] {-1, 1000000, Integer.MIN_VALUE, Integer.MAX_VALUE}) {
                    n[which] = wrong;
                    Due.thrown("" + wrong, Due.ARGUMENT, () -> x.message(0, n[0], n[1], n[2], n[3]));
                }
                Due.is("the tape stays", 2, () -> x.feed('b', 1));
                Due.same("the out stays", "999999", Due.out(x, 6));
            });
        }
    }

    private static void messagesRefused() {
        Said.so("32", "Throws IllegalStateException if the tape is no message", () -> {
            LetterTables x = counted();
            Due.feed(x, "{");
            Due.thrown("no language ahead of that", Due.INDEX, () -> x.message(2, -1, 0, 0, 0));
            Due.thrown("a number out of range ahead of that", Due.ARGUMENT, () -> x.message(0, 0, -1, 0, 0));
            Due.thrown("no message", Due.STATE, () -> x.message(0, 0, 0, 0, 0));
            Due.is("the tape is used up, and empty it is a message", 0, () -> x.message(0, 0, 0, 0, 0));
            for (int i = 0; i < 159; i++) {
                x.feed('a', 1);
            }
            x.feed(31, 1);
            Due.thrown("but for the last of 160 bytes", Due.STATE, () -> x.message(0, 0, 0, 0, 0));
            Due.is("the out stays empty", 0, () -> x.word(0));
        });
        Said.so("32", "Throws IndexOutOfBoundsException if there is no such language", () -> {
            LetterTables x = counted();
            Due.feed(x, "a");
            Due.thrown("2", Due.INDEX, () -> x.message(2, 0, 0, 0, 0));
            Due.thrown("-1", Due.INDEX, () -> x.message(-1, 0, 0, 0, 0));
            Due.is("the tape stays", 2, () -> x.feed('b', 1));
        });
    }

    private static void first200() {
        Said.so("32", "Returns how many bytes the out has then: the first 200 of the message.", () -> {
            String[] tapes = {"{3}".repeat(33) + "a", "{3}".repeat(33) + "ab", "{3}".repeat(33) + "abc",
                "{3}".repeat(34), "{3}".repeat(53), "a{3:x=" + "{3}".repeat(50) + "}"};
            int[] sizes = {199, 200, 200, 200, 200, 200};
            for (int i = 0; i < tapes.length; i++) {
                LetterTables x = counted();
                String whole = tapes[i].replace("{3:x=", "").replace("{3}", "123456").replace("}", "");
                Due.feed(x, tapes[i]);
                int size = sizes[i];
                Due.is("size of '" + tapes[i] + "'", size, () -> x.message(0, 0, 0, 0, 123456));
                Due.same("out of '" + tapes[i] + "'", whole.substring(0, size), Due.out(x, size));
                Due.is("no more", 0, () -> x.word(25));
            }
            LetterTables x = counted();
            Due.feed(x, "{3}".repeat(52) + "{3|}");
            Due.thrown("what is no message far behind the first 200", Due.STATE, () -> x.message(0, 0, 0, 0, 123456));
            Due.is("the out stays empty", 0, () -> x.word(0));
        });
    }
}
