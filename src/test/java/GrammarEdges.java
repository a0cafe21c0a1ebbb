import java.util.regex.Pattern;

/** The two grammars of the tape: all short tapes of their signs, and which of them are patterns, or messages. */
final class GrammarEdges {
    private static final String SET = "!?(?:[.LMBDSC]|#(?:[0-8][0-9]|9[0-5]))";
    private static final Pattern PIECE = Pattern.compile("(?:<" + SET + ")?" + SET + "[*?]?");
    private static final Pattern PATTERN = Pattern.compile("(?:" + PIECE + ")*");
    /** A number, or a choice within which no braces stand any more. */
    private static final Pattern INNERMOST =
            Pattern.compile("\\{[0-3](?::(?:[ofmx]|#[0-3])=[^{|}]*(?:\\|(?:[ofmx]|#[0-3])=[^{|}]*)*)?\\}");

    private GrammarEdges() {
    }

    static void all() {
        Said.so("Patterns", "pattern = { [ \"<\" set ] set [ \"*\" | \"?\" ] }, set = [ \"!\" ] ( \".\" | \"L\" | \"M\" | \"B\""
                + " | \"D\" | \"S\" | \"C\" | \"#\" digit digit )", () -> {
                    each("<!.LMBDSC#059*?x", 3, GrammarEdges::patternDue);
                    each("<!L#5*?", 5, GrammarEdges::patternDue);
                    each("!#0569", 6, GrammarEdges::patternDue);
                });
        Said.so("Messages", "piece = a byte from 32 to 126 but { | } | \"{\" digit \"}\" | \"{\" digit \":\" case { \"|\" case } \"}\"",
                () -> {
                    each("{}|:=ofmx#034a", 4, GrammarEdges::messageDue);
                    each("{}|:=x#0", 5, GrammarEdges::messageDue);
                    inside("{0:", "{}|=x#3", 5, "}");
                    inside("{3:x=", "{}|:=o2", 5, "}");
                    inside("{0:#1=", "{}|:=x0", 5, "}}");
                });
    }

    private interface Asked {
        void ask(LetterTables x, String tape);
    }

    private static LetterTables used;
    private static int tapes;

    /** An object for some tapes: it is used for 512 calls alone. */
    private static LetterTables next() {
        if (used == null || tapes == 150) {
            used = new LetterTables();
            tapes = 0;
        }
        tapes++;
        return used;
    }

    /** All tapes of these signs up to a length. */
    private static void each(String signs, int longest, Asked asked) {
        asked.ask(next(), "");
        grow("", signs, longest, asked);
    }

    private static void inside(String ahead, String signs, int longest, String behind) {
        grow("", signs, longest, (x, tape) -> messageDue(x, ahead + tape + behind));
    }

    private static void grow(String begun, String signs, int longest, Asked asked) {
        for (int i = 0; i < signs.length() && longest > 0; i++) {
            String tape = begun + signs.charAt(i);
            asked.ask(next(), tape);
            grow(tape, signs, longest - 1, asked);
        }
    }

    private static void patternDue(LetterTables x, String tape) {
        Due.feed(x, tape);
        if (PATTERN.matcher(tape).matches()) {
            Due.is("'" + tape + "'", PIECE.matcher(tape).results().count(), x::pattern);
        } else {
            Due.thrown("'" + tape + "'", Due.STATE, x::pattern);
        }
    }

    private static void messageDue(LetterTables x, String tape) {
        Due.feed(x, tape);
        if (isMessage(tape)) {
            Due.goes("'" + tape + "'", () -> x.message(0, 0, 1, 2, 3));
        } else {
            Due.thrown("'" + tape + "'", Due.STATE, () -> x.message(0, 0, 1, 2, 3));
        }
    }

    /** The innermost braces become a letter, as long as there are such. */
    private static boolean isMessage(String tape) {
        String text = tape;
        for (String next = ""; !next.equals(text);) {
            next = text;
            text = INNERMOST.matcher(text).replaceAll("a");
        }
        return !Pattern.compile("[{|}]").matcher(text).find();
    }
}
