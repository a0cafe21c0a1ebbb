/** Promises 30 to 35: transliteration, messages, encoding, with answers worked out by hand from the document. */
public final class OutTest {
    private static final int N = LetterTables.NONE;

    public static void main(String[] args) {
        rules();
        rulesWithContexts();
        passes();
        transliterateWrong();
        classes();
        messages();
        choices();
        choicesInOneAnother();
        messagesWrong();
        longMessages();
        words();
        encodes();
        decodes();
        decodesWrong();
        Due.end();
    }

    private static void rule(LetterTables x, int pass, int[] ahead, int[] source, int[] behind, int[] target) {
        Due.write(x, 2, ahead);
        Due.write(x, 3, source);
        Due.write(x, 4, behind);
        Due.write(x, 5, target);
        x.addRule(pass, 2, 3, 4, 5);
    }

    private static void goes(LetterTables x, boolean isBack, String want, int... text) {
        Due.write(x, 0, text);
        String what = "30: " + Due.read(x, 0) + (isBack ? " back" : "");
        Due.is(what, want.isEmpty() ? 0 : want.split(" ").length, () -> x.transliterate(0, 1, isBack));
        Due.same(what, want, Due.read(x, 1));
        Due.is(what + ", the text stays", text.length, () -> x.at(0, N));
    }

    private static void rules() {
        LetterTables x = new LetterTables();
        goes(x, false, "");
        goes(x, false, "1 2 3", 1, 2, 3);
        rule(x, 0, Due.row(), Due.row(1, 2), Due.row(), Due.row(7));
        rule(x, 0, Due.row(), Due.row(1), Due.row(), Due.row(8, 8, 8));
        rule(x, 0, Due.row(), Due.row(3, 3, 3), Due.row(), Due.row());
        rule(x, 0, Due.row(), Due.row(1, 2, 3), Due.row(), Due.row(9));
        goes(x, false, "7 3", 1, 2, 3);
        goes(x, false, "8 8 8 7 2", 1, 1, 2, 2);
        goes(x, false, "", 3, 3, 3);
        goes(x, false, "3", 3, 3, 3, 3);
        goes(x, false, "3 3 4", 3, 3, 4);
        goes(x, true, "1 2 3 1 8", 7, 3, 8, 8, 8, 8);
        goes(x, true, "1 2 3", 9);
        goes(x, true, "", new int[0]);
        goes(x, true, "3 3 3", 3, 3, 3);
        Due.write(x, 0, 1, 1);
        Due.is("30: into itself", 6, () -> x.transliterate(0, 0, false));
        Due.same("30: into itself", "8 8 8 8 8 8", Due.read(x, 0));
        Due.is("30: and back", 2, () -> x.transliterate(0, 0, true));
        Due.same("30: and back", "1 1", Due.read(x, 0));
    }

    private static void rulesWithContexts() {
        LetterTables x = new LetterTables();
        // What stands ahead is what has come out, what stands behind has not gone through yet.
        rule(x, 0, Due.row(5), Due.row(1), Due.row(), Due.row(6));
        rule(x, 0, Due.row(), Due.row(4), Due.row(), Due.row(5));
        rule(x, 0, Due.row(6, 6), Due.row(2), Due.row(), Due.row(9));
        rule(x, 0, Due.row(), Due.row(2), Due.row(4), Due.row(8));
        rule(x, 0, Due.row(8, 5), Due.row(2), Due.row(3, 3), Due.row(7, 7));
        goes(x, false, "5 6 1", 4, 1, 1);
        goes(x, false, "1 6 2", 1, 6, 2);
        goes(x, false, "6 6 9", 6, 6, 2);
        goes(x, false, "5 6 6 9", 5, 1, 6, 2);
        goes(x, false, "8 5", 2, 4);
        goes(x, false, "2 5", 2, 5);
        goes(x, false, "2", 2);
        goes(x, false, "8 5 7 7 3 3", 2, 4, 2, 3, 3);
        goes(x, false, "8 5 2 3", 2, 4, 2, 3);
        goes(x, false, "5 2 3 3", 4, 2, 3, 3);
        // Back: 6 behind 5 is 1, but 5 itself is 4 by then, so that it does not stand ahead.
        goes(x, true, "4 6", 5, 6);
        goes(x, true, "8", 8);
        goes(x, true, "2 4", 8, 4);
        goes(x, true, "8 4", 8, 5);
        goes(x, true, "6 6 2", 6, 6, 9);
        goes(x, true, "6 9", 6, 9);
    }

    private static void passes() {
        LetterTables x = new LetterTables();
        rule(x, 1, Due.row(), Due.row(2), Due.row(), Due.row(3));
        rule(x, 0, Due.row(), Due.row(1), Due.row(), Due.row(2));
        rule(x, 0, Due.row(), Due.row(3), Due.row(), Due.row(4));
        goes(x, false, "3 3 4", 1, 2, 3);
        goes(x, true, "1 1 3", 2, 3, 4);
        LetterTables y = new LetterTables();
        rule(y, 0, Due.row(), Due.row(1), Due.row(), Due.row(2, 2));
        rule(y, 1, Due.row(), Due.row(2), Due.row(), Due.row());
        goes(y, false, "5", 1, 5, 1);
        goes(y, true, "5 1", 5, 2, 2);
        goes(y, true, "2 5", 2, 5);
    }

    private static void transliterateWrong() {
        LetterTables x = new LetterTables();
        rule(x, 0, Due.row(), Due.row(1), Due.row(), Due.row(2, 2));
        rule(x, 1, Due.row(), Due.row(2), Due.row(), Due.row());
        rule(x, 1, Due.row(), Due.row(7), Due.row(), Due.row(8, 8));
        rule(x, 0, Due.row(), Due.row(6, 6), Due.row(), Due.row(9));
        int[] text = new int[21];
        java.util.Arrays.fill(text, 1);
        Due.write(x, 0, text);
        Due.write(x, 1, 5);
        Due.thrown("30: the first pass puts out 42", Due.STATE, () -> x.transliterate(0, 1, false));
        Due.same("30: the target stays", "5", Due.read(x, 1));
        text[0] = 3;
        Due.write(x, 0, text);
        Due.thrown("30: 41", Due.STATE, () -> x.transliterate(0, 0, false));
        Due.is("30: the text stays", 21, () -> x.at(0, N));
        text[1] = 3;
        text[2] = 2;
        Due.write(x, 0, text);
        Due.is("30: 39", 2, () -> x.transliterate(0, 1, false));
        java.util.Arrays.fill(text, 7);
        Due.write(x, 0, text);
        Due.thrown("30: the second pass puts out 42", Due.STATE, () -> x.transliterate(0, 1, false));
        Due.write(x, 0, java.util.Arrays.copyOf(text, 20));
        Due.is("30: 40", 40, () -> x.transliterate(0, 1, false));
        java.util.Arrays.fill(text, 9);
        Due.write(x, 0, text);
        Due.thrown("30: 42 back", Due.STATE, () -> x.transliterate(0, 1, true));
        Due.thrown("30: slot", Due.INDEX, () -> x.transliterate(6, 0, true));
        Due.thrown("30: target", Due.INDEX, () -> x.transliterate(0, -1, true));
        Due.write(x, 0, new int[40]);
        Due.is("30: a full text", 40, () -> x.transliterate(0, 1, false));
    }

    private static LetterTables counted() {
        LetterTables x = new LetterTables();
        x.plural(0, LetterTables.ONE, 10, 1, 1, 100, 11, 11);
        x.plural(0, LetterTables.FEW, 10, 2, 4, 100, 12, 14);
        x.plural(0, LetterTables.MANY, 10, 0, 4, 0, 0, 0);
        x.plural(1, LetterTables.FEW, 100, 0, 0, 0, 0, 0);
        return x;
    }

    private static void classes() {
        LetterTables x = counted();
        int[][] all = {{1, 0}, {11, 2}, {21, 0}, {111, 2}, {101, 0}, {2, 1}, {4, 1}, {5, N}, {12, 2}, {22, 1}, {0, 2},
            {999999, N}, {999991, 0}, {999911, 2}};
        for (int[] one : all) {
            Due.is("31: class of " + one[0], one[1], () -> x.classOf(0, one[0]));
        }
        Due.is("31: the other language", LetterTables.FEW, () -> x.classOf(1, 500));
        Due.is("31: the other language", N, () -> x.classOf(1, 1));
        Due.thrown("31: language", Due.INDEX, () -> x.classOf(2, -1));
        Due.thrown("31: language", Due.INDEX, () -> x.classOf(-1, 0));
        Due.thrown("31: -1", Due.ARGUMENT, () -> x.classOf(0, -1));
        Due.thrown("31: 1000000", Due.ARGUMENT, () -> x.classOf(0, 1000000));
    }

    private static void message(LetterTables x, String tape, String want, int... numbers) {
        Due.feed(x, tape);
        String what = "32: " + tape + " with " + numbers[0];
        Due.is(what, want.length(), () -> x.message(0, numbers[0], numbers[1], numbers[2], numbers[3]));
        Due.same(what, want, Due.out(x, want.length()));
        Due.is(what + ", nothing behind", 0, () -> x.word((want.length() + 7) / 8));
        Due.is(what + ", the tape is used up", 1, () -> x.feed('.', 1));
        x.decode(5);
    }

    private static void messages() {
        LetterTables x = counted();
        message(x, "", "", 0, 0, 0, 0);
        message(x, "Abc ~=:#,", "Abc ~=:#,", 0, 0, 0, 0);
        message(x, "{0}", "0", 0, 1, 2, 3);
        message(x, "{0}{1}{2}{3}", "0123", 0, 1, 2, 3);
        message(x, "{3} {2} {1} {0}", "999999 100000 10 9", 9, 10, 100000, 999999);
        message(x, "<{1}>", "<1001>", 0, 1001, 0, 0);
    }

    private static void choices() {
        LetterTables x = counted();
        String one = "{0:o=one|f=few|m=many|x=all}";
        message(x, one, "one", 21, 0, 0, 0);
        message(x, one, "few", 22, 0, 0, 0);
        message(x, one, "many", 11, 0, 0, 0);
        message(x, one, "all", 5, 0, 0, 0);
        message(x, "{0:x=all|o=one}", "all", 21, 0, 0, 0);
        message(x, "{0:f=few|o=one}.", ".", 11, 0, 0, 0);
        message(x, "{0:o=1|o=2}", "1", 21, 0, 0, 0);
        message(x, "{1:#0=no|#1=just one|o=one|x={1}} {0}", "no 7", 7, 0, 0, 0);
        message(x, "{1:#0=no|#1=just one|o=one|x={1}} {0}", "just one 7", 7, 1, 0, 0);
        message(x, "{1:#0=no|#1=just one|o=one|x={1}} {0}", "one 7", 7, 31, 0, 0);
        message(x, "{1:#0=no|#1=just one|o=one|x={1}} {0}", "18 7", 7, 18, 0, 0);
        message(x, "{0:#3=3|#2=2}{1:#3=3|#2=2}", "32", 3, 2, 0, 0);
        message(x, "{0:x=}", "", 3, 2, 0, 0);
        message(x, "{0:o=|x=a}", "", 1, 2, 0, 0);
        message(x, "{0:x==:#,}", "=:#,", 1, 2, 0, 0);
        message(x, "a{2:o={3:o=oo|x=ox}|x={3:o=xo|x=xx}}b", "aoob", 0, 0, 1, 1);
        message(x, "a{2:o={3:o=oo|x=ox}|x={3:o=xo|x=xx}}b", "aoxb", 0, 0, 1, 9);
        message(x, "a{2:o={3:o=oo|x=ox}|x={3:o=xo|x=xx}}b", "axob", 0, 0, 9, 1);
        message(x, "a{2:o={3:o=oo|x=ox}|x={3:o=xo|x=xx}}b", "axxb", 0, 0, 9, 9);
        Due.feed(x, "{0:o=a|f=b|m=c|x=d}");
        Due.is("32: the other language", 1, () -> x.message(1, 0, 1, 1, 1));
        Due.is("32: the other language", 'b', () -> x.word(0));
        Due.feed(x, "{0:o=a|f=b|m=c}");
        Due.is("32: the other language", 0, () -> x.message(1, 1, 1, 1, 1));
        Due.is("32: nothing", 0, () -> x.word(0));
    }

    private static String within(int depth) {
        return "{0:x=".repeat(depth) + "a" + "}".repeat(depth);
    }

    private static void choicesInOneAnother() {
        LetterTables x = counted();
        message(x, within(6), "a", 0, 0, 0, 0);
        message(x, within(6) + within(6), "aa", 0, 0, 0, 0);
        message(x, "{0:x=" + within(5) + within(5) + "{0}}", "aa7", 7, 0, 0, 0);
        message(x, within(6).replace("a", "{1}"), "8", 7, 8, 0, 0);
        isNone(x, within(7));
        isNone(x, "{0:o=a|x={0:o=b|x=" + within(5) + "}}");
        isNone(x, "{0:x=a|o=" + within(6) + "}");
    }

    private static void isNone(LetterTables x, String tape) {
        Due.feed(x, "kept");
        x.message(0, 0, 0, 0, 0);
        Due.feed(x, tape);
        Due.thrown("32: " + tape, Due.STATE, () -> x.message(0, 1, 1, 1, 1));
        Due.same("32: the out stays", "kept", Due.out(x, 4));
        Due.is("32: the tape is used up", 1, () -> x.feed('.', 1));
        x.decode(5);
    }

    private static void messagesWrong() {
        LetterTables x = counted();
        String[] all = {"{", "}", "|", "a|b", "a}", "{}", "{4}", "{a}", "{0", "{0:", "{0:}", "{0:o}", "{0:o=", "{0:o=a",
            "{0:o=a|}", "{0:o=a|f}", "{0:o=a||x=b}", "{0:y=a}", "{0:#=a}", "{0:#4=a}", "{0:#12=a}", "{0:o=a}}",
            "{0:o=a|x={1}", "{0:o={}}", "{0 }", "{00}", "{0:O=a}", "{0:o=a}|", "\u001f", "a\u007f", "\u0000", "\u00e9",
            "{0:o=\u00e9}", "{-1}", "{0::o=a}", "{0:=a}", "{0:oo=a}", "{0:o:a}", "{0:x=a|#5=b}", "{:x=a}"};
        for (String one : all) {
            isNone(x, one);
        }
        Due.feed(x, "{0}");
        Due.thrown("32: language", Due.INDEX, () -> x.message(2, -1, 0, 0, 0));
        Due.thrown("32: language", Due.INDEX, () -> x.message(-1, 0, 0, 0, 0));
        Due.thrown("32: one", Due.ARGUMENT, () -> x.message(0, -1, 0, 0, 0));
        Due.thrown("32: two", Due.ARGUMENT, () -> x.message(0, 0, 1000000, 0, 0));
        Due.thrown("32: three", Due.ARGUMENT, () -> x.message(0, 0, 0, -1, 0));
        Due.thrown("32: four", Due.ARGUMENT, () -> x.message(0, 0, 0, 0, 1000000));
        Due.is("32: the tape stays", 4, () -> x.feed('!', 1));
        Due.is("32: the tape stays", 7, () -> x.message(0, 999999, 0, 0, 0));
        Due.feed(x, "{");
        Due.thrown("32: arguments ahead of the tape", Due.ARGUMENT, () -> x.message(0, -1, 0, 0, 0));
        Due.thrown("32: and the tape", Due.STATE, () -> x.message(0, 0, 0, 0, 0));
    }

    private static void longMessages() {
        LetterTables x = counted();
        Due.feed(x, "a" + "{3}".repeat(53));
        Due.is("32: the first 200", 200, () -> x.message(0, 0, 0, 0, 123456));
        Due.same("32: the first 200", ("a" + "123456".repeat(53)).substring(0, 200), Due.out(x, 200));
        Due.is("32: not more", 0, () -> x.word(25));
        Due.feed(x, "{3}".repeat(52) + "{3|}");
        Due.thrown("32: wrong far behind the first 200", Due.STATE, () -> x.message(0, 0, 0, 0, 123456));
        Due.same("32: the out stays", ("a" + "123456".repeat(53)).substring(0, 200), Due.out(x, 200));
        Due.feed(x, "{3}".repeat(33) + "ab");
        Due.is("32: just 200", 200, () -> x.message(0, 0, 0, 0, 123456));
        Due.is("32: the last two", 'a' | 'b' << 8, () -> x.word(24) >>> 48);
    }

    private static void words() {
        LetterTables x = new LetterTables();
        Due.feed(x, "ABCDEFGHIJK");
        x.message(0, 0, 0, 0, 0);
        Due.is("33: 0", 0x4847464544434241L, () -> x.word(0));
        Due.is("33: 1", 0x4B4A49L, () -> x.word(1));
        Due.is("33: 2", 0, () -> x.word(2));
        Due.is("33: -1", 0, () -> x.word(-1));
        Due.is("33: far", 0, () -> x.word(Integer.MAX_VALUE));
        Due.is("33: far ahead", 0, () -> x.word(Integer.MIN_VALUE));
        Due.is("33: where 8 * i is 0 by the int", 0, () -> x.word(1 << 29));
        Due.is("33: where 8 * i is 8 by the int", 0, () -> x.word((1 << 29) + 1));
    }

    private static void encode(LetterTables x, int[] want, int... text) {
        Due.write(x, 0, text);
        Due.is("34: " + Due.read(x, 0), want.length, () -> x.encode(0));
        for (int i = 0; i < want.length; i++) {
            int at = i;
            Due.is("34: byte " + i + " of " + Due.read(x, 0), want[i], () -> x.word(at / 8) >>> 8 * (at % 8) & 255);
        }
        Due.is("34: nothing behind", 0, () -> x.word((want.length + 7) / 8));
    }

    private static void encodes() {
        LetterTables x = new LetterTables();
        encode(x, Due.row());
        encode(x, Due.row(32, 95), 0, 63);
        encode(x, Due.row(14, 32, 63, 15), 64, 95);
        encode(x, Due.row(33, 14, 33, 34, 15, 34, 14, 35, 15), 1, 65, 66, 2, 67);
        encode(x, Due.row(14, 32, 15, 32), 64, 0);
        encode(x, Due.row(32), 0);
        int[] text = new int[40];
        for (int i = 0; i < 40; i += 2) {
            text[i] = 70;
        }
        Due.write(x, 1, text);
        Due.is("34: the longest", 80, () -> x.encode(1));
        Due.write(x, 2, 9);
        Due.is("34: instead of what was there", 1, () -> x.encode(2));
        Due.is("34: instead of what was there", 41, () -> x.word(0));
        Due.is("34: instead of what was there", 0, () -> x.word(1));
        Due.thrown("34: slot", Due.INDEX, () -> x.encode(6));
        Due.thrown("34: slot", Due.INDEX, () -> x.encode(-1));
        Due.is("34: the out stays", 41, () -> x.word(0));
    }

    private static void decode(LetterTables x, int errors, String want, int... bytes) {
        for (int one : bytes) {
            x.feed(one, 1);
        }
        Due.is("35: errors for " + want, errors, () -> x.decode(0));
        Due.same("35: decoded", want, Due.read(x, 0));
        Due.is("35: the tape is used up", 1, () -> x.feed(40, 1));
        Due.is("35: by another slot", 0, () -> x.decode(1));
        Due.same("35: by another slot", "8", Due.read(x, 1));
    }

    private static void decodes() {
        LetterTables x = new LetterTables();
        decode(x, 0, "");
        decode(x, 0, "0 63", 32, 95);
        decode(x, 0, "64 95", 14, 32, 63, 15);
        decode(x, 0, "1 65 66 2 67", 33, 14, 33, 34, 15, 34, 14, 35, 15);
        decode(x, 0, "1 65", 15, 15, 33, 14, 14, 33, 15);
        decode(x, 0, "", 14, 15);
        decode(x, 1, "", 14);
        decode(x, 1, "64", 14, 32);
        decode(x, 4, "0 0 0 0", 31, 96, 0, 255);
        decode(x, 5, "0 0 0 95 0 0", 14, 64, 95, 31, 63, 16, 13, 15);
        decode(x, 3, "0 0", 10, 14, 31);
    }

    private static void decodesWrong() {
        LetterTables x = new LetterTables();
        Due.write(x, 0, 7);
        for (int i = 0; i < 10; i++) {
            x.feed(0x21212121L, 4);
        }
        Due.thrown("35: slot", Due.INDEX, () -> x.decode(6));
        Due.thrown("35: slot", Due.INDEX, () -> x.decode(-1));
        Due.is("35: the tape stays", 41, () -> x.feed(14, 1));
        Due.is("35: 40 letters", 1, () -> x.decode(0));
        Due.is("35: 40 letters", 40, () -> x.at(0, N));
        Due.is("35: it was empty", 0, () -> x.decode(0));
        Due.is("35: it was empty", 0, () -> x.at(0, N));
        Due.write(x, 0, 7);
        for (int i = 0; i < 41; i++) {
            x.feed(1, 1);
        }
        Due.thrown("35: 41 letters", Due.STATE, () -> x.decode(0));
        Due.same("35: the text stays", "7", Due.read(x, 0));
        Due.is("35: the tape is used up", 1, () -> x.feed(33, 1));
        Due.is("35: the rest", 0, () -> x.decode(0));
        Due.same("35: the rest", "1", Due.read(x, 0));
    }
}
