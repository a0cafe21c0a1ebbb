import java.util.Arrays;

/** The sentences of 'Terms': how many there are of all, what is at first, what uses up the tape, the last call. */
final class TermEdges {
    private static final int N = LetterTables.NONE;

    private TermEdges() {
    }

    static void all() {
        Said.plain("Terms", "Letters are told, texts written into slots");
        letters();
        atFirst();
        tape();
        tapeTakenOver();
        exceptions();
        lastCall();
    }

    private static void letters() {
        Said.so("Terms", "There are the letters 0 to 95", () -> {
            LetterTables x = new LetterTables();
            Due.is("0", 1, () -> x.put(0, 0));
            Due.is("95", 2, () -> x.put(0, 95));
            Due.thrown("-1", Due.INDEX, () -> x.put(0, -1));
            Due.thrown("96", Due.INDEX, () -> x.put(0, 96));
            Due.same("the text", "0 95", Due.read(x, 0));
        });
        Said.so("Terms", "the slots 0 to 5", () -> {
            LetterTables x = new LetterTables();
            for (int slot = 0; slot < 6; slot++) {
                int own = slot;
                Due.is("slot " + slot, 1, () -> x.put(own, own + 10));
            }
            for (int slot = 0; slot < 6; slot++) {
                Due.same("each by itself", "" + (slot + 10), Due.read(x, slot));
            }
            Due.thrown("-1", Due.INDEX, () -> x.at(-1, 0));
            Due.thrown("6", Due.INDEX, () -> x.at(6, 0));
        });
        Said.so("Terms", "texts of at most 40 letters", () -> {
            for (int slot = 0; slot < 6; slot++) {
                int own = slot;
                LetterTables x = new LetterTables();
                Due.write(x, slot, new int[39]);
                Due.is("the 40th", 40, () -> x.put(own, 95));
                Due.thrown("one more", Due.STATE, () -> x.put(own, 1));
                Due.is("stays", 40, () -> x.at(own, N));
                Due.is("its last", 95, () -> x.at(own, 39));
                Due.is("another one is not full", 1, () -> x.put((own + 1) % 6, 1));
            }
        });
        Said.so("Terms", "and the languages 0 and 1", () -> {
            LetterTables x = new LetterTables();
            x.weigh(0, 7, 3, 0, 0);
            x.weigh(1, 7, 0, 4, 0);
            Due.write(x, 0, 7);
            Due.same("0", "3 0 0", Due.key(x, 0, 0));
            Due.same("1", "0 4 0", Due.key(x, 1, 0));
            Due.thrown("-1", Due.INDEX, () -> x.key(-1, 0, N));
            Due.thrown("2", Due.INDEX, () -> x.key(2, 0, N));
        });
    }

    private static void atFirst() {
        Said.so("Terms", "all empty at first", () -> {
            LetterTables x = new LetterTables();
            for (int slot = 0; slot < 6; slot++) {
                int own = slot;
                Due.is("size", 0, () -> x.at(own, N));
                Due.thrown("no first letter", Due.INDEX, () -> x.at(own, 0));
                Due.is("nothing to clear", 0, () -> x.clear(own));
            }
        });
        Said.so("Terms", "The out is a row of bytes.", () -> {
            LetterTables x = new LetterTables();
            Due.is("empty at first", 0, () -> x.word(0));
            Due.feed(x, "{0}{0}{0}{0}{0}{0}{0}{0}{0}{0}{0}{0}{0}{0}{0}{0}{0}{0}{0}{0}{0}{0}{0}{0}{0}");
            Due.is("150 bytes", 150, () -> x.message(0, 555555, 0, 0, 0));
            Due.is("of them the last ones", 0x353535353535L, () -> x.word(18));
            Due.write(x, 0, 1);
            Due.is("another out instead", 1, () -> x.encode(0));
            Due.is("its byte", 33, () -> x.word(0));
            Due.is("nothing else", 0, () -> x.word(1));
            Due.is("nothing else", 0, () -> x.word(18));
            Due.is("an empty one", 0, () -> x.encode(1));
            Due.is("nothing", 0, () -> x.word(0));
        });
        Said.so("1", "All letters without anything", () -> {
            for (int from = 0; from < 96; from += 32) {
                bare(from);
            }
        });
        Said.so("1", "empty texts", () -> {
            LetterTables x = new LetterTables();
            for (int slot = 0; slot < 6; slot++) {
                int own = slot;
                Due.is("size", 0, () -> x.at(own, N));
                Due.is("base", 0, () -> x.base(own));
                Due.is("breaks", 0, () -> x.breaks(own, 0));
                Due.is("key", 2, () -> x.key(0, own, N));
                Due.is("encoded", 0, () -> x.encode(own));
            }
        });
    }

    /** 32 letters of a new object, of which nothing is told. */
    private static void bare(int from) {
        LetterTables x = new LetterTables();
        int[] letters = new int[32];
        Arrays.setAll(letters, i -> from + i);
        Due.write(x, 0, letters);
        String all = Due.read(x, 0);
        for (int form = 0; form < 4; form++) {
            x.form(0, form, 1);
            Due.same("form " + form, all, Due.read(x, 1));
        }
        Due.same("levels", "0" + " 0".repeat(31), Due.levels(x, 0, N));
        Due.same("levels by 1", "1" + " 1".repeat(31), Due.levels(x, 0, 1));
        Due.is("clusters", 0xFFFFFFFEL, () -> x.breaks(0, 0));
        Due.is("words", 0xFFFFFFFEL, () -> x.breaks(0, 1));
        Due.is("lines", 0, () -> x.breaks(0, 2));
        Due.same("key", "0 0", Due.key(x, 0, 0));
        Due.same("key", "0 0", Due.key(x, 1, 0));
        Due.is("goes through", 32, () -> x.transliterate(0, 1, false));
        Due.same("as it was", all, Due.read(x, 1));
        Due.feed(x, "L?M?B?D?S?C?");
        x.pattern();
        Due.is("neither of the kinds, nor a capital", 0, () -> x.match(0, 0));
    }

    private static void tape() {
        Said.so("Terms", "The tape has at most 160 bytes", () -> {
            LetterTables x = full();
            Due.thrown("one more", Due.STATE, () -> x.feed(33, 1));
            Due.is("all of them", 160, () -> x.message(0, 0, 0, 0, 0));
            Due.is("the last ones", 0x6464646464646464L, () -> x.word(19));
            Due.is("no more", 0, () -> x.word(20));
        });
        Said.so("2", "bytes: the lowest n bytes, the lowest one first", () -> {
            for (int n = 1; n <= 8; n++) {
                int count = n;
                LetterTables x = new LetterTables();
                Due.is("feed " + n, n, () -> x.feed(0x4847464544434241L, count));
                Due.is("message of " + n, n, () -> x.message(0, 0, 0, 0, 0));
                long due = n == 8 ? 0x4847464544434241L : 0x4847464544434241L & (1L << 8 * n) - 1;
                Due.is("the lowest " + n, due, () -> x.word(0));
            }
        });
        Said.so("2", "n: 1 to 8", () -> {
            LetterTables x = new LetterTables();
            for (int n : new int[] {0, 9, -1, -8, 16, Integer.MIN_VALUE, Integer.MAX_VALUE}) {
                Due.thrown("n " + n, Due.ARGUMENT, () -> x.feed(65, n));
            }
            Due.is("1", 1, () -> x.feed(65, 1));
            Due.is("8", 9, () -> x.feed(65, 8));
        });
        Said.so("2", "Puts bytes behind the tape.", () -> {
            LetterTables x = new LetterTables();
            // The highest bit of a byte, and of all: each is a byte from 0 to 255, which none of the states has.
            Due.is("feed", 8, () -> x.feed(Long.MIN_VALUE, 8));
            Due.is("feed", 16, () -> x.feed(-1, 8));
            Due.is("feed", 17, () -> x.feed(0x80, 1));
            Due.is("errors", 17, () -> x.decode(0));
            Due.is("letters", 17, () -> x.at(0, N));
        });
        Said.so("2", "Returns how many bytes it has then.", () -> {
            LetterTables x = new LetterTables();
            Due.is("feed", 3, () -> x.feed(0x434241, 3));
            Due.is("feed", 8, () -> x.feed(0x4847464544L, 5));
            Due.is("message", 8, () -> x.message(0, 0, 0, 0, 0));
            Due.is("one behind the other", 0x4847464544434241L, () -> x.word(0));
            Due.is("anew", 1, () -> x.feed(65, 1));
        });
        Said.so("2", "Throws IllegalStateException if it would have more than 160", () -> {
            LetterTables x = new LetterTables();
            for (int i = 0; i < 19; i++) {
                x.feed(0x2020202020202020L, 8);
            }
            Due.is("153", 153, () -> x.feed(32, 1));
            Due.thrown("161", Due.STATE, () -> x.feed(0x2121212121212121L, 8));
            Due.is("160: nothing of it was taken", 160, () -> x.feed(0x22222222222222L, 7));
            for (int n = 1; n <= 8; n++) {
                int count = n;
                Due.thrown(n + " more", Due.STATE, () -> x.feed(32, count));
            }
            Due.is("160", 160, () -> x.message(0, 0, 0, 0, 0));
            Due.is("the last ones", 0x2222222222222220L, () -> x.word(19));
        });
    }

    private static LetterTables full() {
        LetterTables x = new LetterTables();
        for (int i = 0; i < 20; i++) {
            int count = 8 * i + 8;
            Due.is("filling", count, () -> x.feed(0x6464646464646464L, 8));
        }
        return x;
    }

    /** All 160 bytes are free again. */
    private static void usedUp(LetterTables x) {
        for (int i = 0; i < 20; i++) {
            int count = 8 * i + 8;
            Due.is("free again", count, () -> x.feed(0x2020202020202020L, 8));
        }
        Due.thrown("and full", Due.STATE, () -> x.feed(32, 1));
    }

    private static void tapeTakenOver() {
        Said.so("Terms", "who takes it over uses it up, also if that throws IllegalStateException", () -> {
            LetterTables none = full();
            Due.thrown("no pattern", Due.STATE, none::pattern);
            usedUp(none);
            LetterTables many = full();
            Due.thrown("too many letters", Due.STATE, () -> many.decode(0));
            usedUp(many);
            LetterTables wrong = new LetterTables();
            Due.feed(wrong, "{");
            Due.thrown("no message", Due.STATE, () -> wrong.message(0, 0, 0, 0, 0));
            usedUp(wrong);
            LetterTables x = full();
            Due.is("a message", 160, () -> x.message(0, 0, 0, 0, 0));
            usedUp(x);
            LetterTables y = new LetterTables();
            Due.feed(y, "LL");
            Due.is("a pattern", 2, y::pattern);
            usedUp(y);
            LetterTables z = new LetterTables();
            Due.feed(z, "AB");
            Due.is("decoded", 0, () -> z.decode(0));
            usedUp(z);
        });
        Said.so("Terms", "also if that throws IllegalStateException", () -> {
            LetterTables x = full();
            Due.thrown("decode: no slot", Due.INDEX, () -> x.decode(6));
            Due.thrown("message: no language", Due.INDEX, () -> x.message(2, 0, 0, 0, 0));
            Due.thrown("message: a number", Due.ARGUMENT, () -> x.message(1, 0, 0, 0, -1));
            Due.thrown("other exceptions leave it", Due.STATE, () -> x.feed(32, 1));
            Due.is("all of it", 160, () -> x.message(0, 0, 0, 0, 0));
        });
    }

    private static void exceptions() {
        Said.so("Terms", "A method throws IndexOutOfBoundsException if there is no such letter, slot, language, version or"
                + " place, IllegalArgumentException if another argument is out of range", () -> {
                    LetterTables x = new LetterTables();
                    Due.thrown("letter", Due.INDEX, Due.quiet(() -> x.letter(96, 0, 0, 0, 0)));
                    Due.thrown("slot", Due.INDEX, () -> x.clear(6));
                    Due.thrown("language", Due.INDEX, () -> x.classOf(2, 0));
                    Due.thrown("version", Due.INDEX, Due.quiet(() -> x.use(0)));
                    Due.thrown("place", Due.INDEX, () -> x.at(0, 0));
                    Due.thrown("another", Due.ARGUMENT, () -> x.feed(0, 0));
                    Due.thrown("a letter that is no letter's own", Due.ARGUMENT,
                            Due.quiet(() -> x.letter(0, 0, 0, 0, 96)));
                });
    }

    private static void lastCall() {
        Said.plain("What it is", "Letters, directions, orders, messages", "what later calls answer is free");
        Said.so("What it is", "An object is used for at most 512 calls after it has been made", () -> {
            LetterTables a = used();
            Due.is("shown", 39, () -> a.shown(0, 0, N));
            LetterTables b = used();
            Due.is("save", 1, b::save);
            LetterTables c = used();
            Due.is("form", 40, () -> c.form(0, 3, 1));
            LetterTables d = used();
            Due.thrown("put", Due.STATE, () -> d.put(0, 3));
            LetterTables e = used();
            Due.is("encode", 40, () -> e.encode(0));
            LetterTables f = used();
            Due.is("feed", 1, () -> f.feed(1, 1));
            LetterTables g = used();
            Due.is("match", 40, () -> g.match(0, 0));
            LetterTables h = used();
            Due.is("transliterate", 40, () -> h.transliterate(0, 1, true));
        });
    }

    /** After 511 calls: a full text of marks that go right, one version, a pattern for any text, an empty tape. */
    private static LetterTables used() {
        LetterTables x = new LetterTables();
        x.letter(3, 0, LetterTables.RIGHT, LetterTables.MARK, 4);
        x.save();
        x.feed(0x2A2E, 2);
        x.pattern();
        int calls = 4;
        for (; calls < 44; calls++) {
            x.put(0, 3);
        }
        for (; calls < 508; calls += 8) {
            x.level(0, calls % 40, 1);
            x.form(0, calls % 4, 5);
            x.feed(calls, 1);
            x.decode(4);
            x.use(0);
            x.find(0, 0, 0);
            x.clear(5);
            x.encode(0);
        }
        for (; calls < 511; calls++) {
            x.word(calls);
        }
        return x;
    }
}
