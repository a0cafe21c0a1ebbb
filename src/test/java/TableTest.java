/** Promises 1 to 18, tables and texts, with answers worked out by hand from the document. */
public final class TableTest {
    private static final int N = LetterTables.NONE;

    private static final int L = Directed.L, R = Directed.R, IN2 = Directed.IN2, OUT2 = Directed.OUT2;

    public static void main(String[] args) {
        promise1();
        promise2();
        promise3();
        promise4();
        promise5();
        promise6();
        promise7();
        promise8();
        promise9();
        promise10();
        promise11();
        promise12and13();
        promise14to16();
        promise17split();
        promise17joined();
        promise17folded();
        promise17skeleton();
        promise17wrong();
        promise18();
        Due.end();
    }

    private static int alike(LetterTables x, int slot, int other) {
        return x.looksLike(slot, other) ? 1 : 0;
    }

    private static void promise1() {
        LetterTables x = new LetterTables();
        for (int slot = 0; slot < 6; slot++) {
            int s = slot;
            Due.is("1: size of " + s, 0, () -> x.at(s, N));
            Due.is("1: base of " + s, 0, () -> x.base(s));
        }
        Due.is("1: word", 0, () -> x.word(0));
        Due.thrown("1: no pattern", Due.STATE, () -> x.match(0, 0));
        Due.thrown("1: no version", Due.INDEX, Due.quiet(() -> x.use(0)));
        Due.is("1: no class", N, () -> x.classOf(1, 0));
        for (int from = 0; from < 96; from += 32) {
            promise1letters(from);
        }
        Due.write(x, 0, 5);
        Due.write(x, 1, 6);
        Due.is("1: not alike", 0, () -> alike(x, 0, 1));
        Due.is("1: first word", 1, () -> x.addWord(0));
        Due.is("1: first rule", 1, () -> x.addRule(0, 2, 0, 2, 2));
        Due.is("1: first contraction", 1, () -> x.contract(0, 0, 0, 0, 0, 0));
        Due.is("1: first plural rule", 1, () -> x.plural(0, 0, 1, 0, 0, 0, 0, 0));
        Due.is("1: first version", 0, x::save);
        Due.is("1: first bytes", 1, () -> x.feed(0, 1));
        Due.is("1: partners", 0, Due.quiet(() -> x.partners(0, 1)));
    }

    private static void promise1letters(int from) {
        LetterTables x = new LetterTables();
        for (int i = 0; i < 32; i++) {
            x.put(0, from + i);
        }
        String all = Due.read(x, 0);
        for (int form = 0; form < 4; form++) {
            x.form(0, form, 1);
            Due.same("1: form " + form, all, Due.read(x, 1));
        }
        for (int i = 0; i < 32; i++) {
            int place = i;
            Due.is("1: level", 0, () -> x.level(0, place, N));
        }
        Due.is("1: clusters", 0xFFFFFFFEL, () -> x.breaks(0, 0));
        Due.is("1: words", 0xFFFFFFFEL, () -> x.breaks(0, 1));
        Due.is("1: lines", 0, () -> x.breaks(0, 2));
        Due.same("1: key", "0 0", Due.key(x, 0, 0));
        Due.same("1: key", "0 0", Due.key(x, 1, 0));
        x.transliterate(0, 1, false);
        Due.same("1: transliterated", all, Due.read(x, 1));
        x.transliterate(0, 1, true);
        Due.same("1: transliterated back", all, Due.read(x, 1));
    }

    private static void promise2() {
        LetterTables x = new LetterTables();
        Due.thrown("2: n 0", Due.ARGUMENT, () -> x.feed(65, 0));
        Due.thrown("2: n 9", Due.ARGUMENT, () -> x.feed(65, 9));
        Due.thrown("2: n -1", Due.ARGUMENT, () -> x.feed(65, -1));
        Due.is("2: two bytes", 2, () -> x.feed(0x434241L, 2));
        Due.is("2: eight bytes", 10, () -> x.feed(0x6867666564636261L, 8));
        Due.is("2: one byte", 11, () -> x.feed(0x5A, 1));
        Due.is("2: put out", 11, () -> x.message(0, 0, 0, 0, 0));
        Due.same("2: the lowest first", "ABabcdefghZ", Due.out(x, 11));
        for (int i = 1; i <= 19; i++) {
            int count = 8 * i;
            Due.is("2: filling", count, () -> x.feed(0x2020202020202020L, 8));
        }
        Due.is("2: 159", 159, () -> x.feed(0x20202020202020L, 7));
        Due.thrown("2: two too many", Due.STATE, () -> x.feed(0x2020, 2));
        Due.thrown("2: n ahead of full", Due.ARGUMENT, () -> x.feed(0x2020, 9));
        Due.is("2: the last", 160, () -> x.feed(0x21, 1));
        Due.thrown("2: full", Due.STATE, () -> x.feed(0x20, 1));
        Due.is("2: all there", 160, () -> x.message(0, 0, 0, 0, 0));
        Due.is("2: the last one", 0x2120202020202020L, () -> x.word(19));
        Due.is("2: negative bytes", 8, () -> x.feed(-1, 8));
        Due.is("2: each is 255", 8, () -> x.decode(0));
        Due.is("2: eight letters", 8, () -> x.at(0, N));
    }

    private static void promise3() {
        LetterTables x = new LetterTables();
        Due.thrown("3: letter -1", Due.INDEX, Due.quiet(() -> x.letter(-1, 0, 0, 0, 0)));
        Due.thrown("3: letter 96", Due.INDEX, Due.quiet(() -> x.letter(96, 0, 0, 0, 0)));
        Due.thrown("3: letter first", Due.INDEX, Due.quiet(() -> x.letter(96, 10, 0, 0, 0)));
        int[][] wrong = {{-1, 0, 0, 0}, {10, 0, 0, 0}, {0, -1, 0, 0}, {0, 11, 0, 0}, {0, 0, -1, 0}, {0, 0, 7, 0},
            {0, 0, 0, -1}, {0, 0, 0, 96}};
        Due.write(x, 0, 95, 94);
        for (int[] w : wrong) {
            Due.thrown("3: wrong", Due.ARGUMENT, Due.quiet(() -> x.letter(95, w[0], w[1], w[2], w[3])));
        }
        Due.is("3: nothing told", 2, () -> x.breaks(0, 0));
        x.letter(95, 9, LetterTables.POP_ISOLATE, LetterTables.SEAMLESS, 95);
        x.letter(0, 0, LetterTables.LEFT, LetterTables.OTHER, 0);
        x.letter(94, 5, LetterTables.RIGHT, LetterTables.MARK, 3);
        Due.is("3: kind", 0, () -> x.breaks(0, 0));
        Due.is("3: direction", 1, () -> x.base(0));
        x.form(0, 0, 1);
        Due.same("3: joining class", "94 95", Due.read(x, 1));
        x.form(0, 3, 1);
        Due.same("3: like", "3 95", Due.read(x, 1));
        x.letter(94, 0, LetterTables.LEFT, LetterTables.LETTER, 94);
        Due.is("3: other kind", 2, () -> x.breaks(0, 0));
        Due.is("3: other direction", 0, () -> x.base(0));
        x.form(0, 3, 1);
        Due.same("3: all told anew", "95 94", Due.read(x, 1));
    }

    private static void promise4() {
        LetterTables x = new LetterTables();
        Due.thrown("4: letter -1", Due.INDEX, Due.quiet(() -> x.split(-1, N, N)));
        Due.thrown("4: letter 96", Due.INDEX, Due.quiet(() -> x.split(96, 0, 200)));
        int[][] wrong = {{5, 5, 0}, {5, 0, 5}, {5, N, 0}, {5, 0, N}, {5, -2, 0}, {5, 0, -2}, {5, -2, -2}, {0, 0, 0},
            {5, 96, 1}};
        for (int[] w : wrong) {
            Due.thrown("4: wrong", Due.ARGUMENT, Due.quiet(() -> x.split(w[0], w[1], w[2])));
        }
        Due.write(x, 0, 5, 95);
        x.split(0, N, N);
        Due.is("4: none split", 2, () -> x.form(0, 0, 1));
        x.split(5, 4, 4);
        x.split(95, 94, 0);
        x.form(0, 0, 1);
        Due.same("4: split", "4 4 94 0", Due.read(x, 1));
        x.split(5, 1, 2);
        x.form(0, 0, 1);
        Due.same("4: told anew", "1 2 94 0", Due.read(x, 1));
        x.split(5, N, N);
        x.form(0, 0, 1);
        Due.same("4: not any more", "5 94 0", Due.read(x, 1));
    }

    private static void promise5() {
        LetterTables x = new LetterTables();
        Due.thrown("5: letter -1", Due.INDEX, Due.quiet(() -> x.capital(-1, N, N)));
        Due.thrown("5: letter 96", Due.INDEX, Due.quiet(() -> x.capital(96, 200, N)));
        int[][] wrong = {{-2, N}, {96, N}, {0, -2}, {0, 96}, {N, 0}, {N, 96}};
        for (int[] w : wrong) {
            Due.thrown("5: wrong", Due.ARGUMENT, Due.quiet(() -> x.capital(3, w[0], w[1])));
        }
        Due.write(x, 0, 3, 95);
        x.capital(3, 95, 0);
        x.capital(95, 0, N);
        x.form(0, 2, 1);
        Due.same("5: capitals", "95 0 0", Due.read(x, 1));
        x.capital(3, 3, 95);
        x.form(0, 2, 1);
        Due.same("5: itself in it", "3 95 0", Due.read(x, 1));
        x.capital(3, N, N);
        x.form(0, 2, 1);
        Due.same("5: none", "3 0", Due.read(x, 1));
    }

    private static void promise6() {
        LetterTables x = new LetterTables();
        Due.thrown("6: opening -1", Due.INDEX, Due.quiet(() -> x.partners(-1, 0)));
        Due.thrown("6: closing 96", Due.INDEX, Due.quiet(() -> x.partners(0, 96)));
        Due.thrown("6: both 96", Due.INDEX, Due.quiet(() -> x.partners(96, 96)));
        Due.thrown("6: the same", Due.STATE, Due.quiet(() -> x.partners(4, 4)));
        x.partners(0, 95);
        Due.thrown("6: opening taken", Due.STATE, Due.quiet(() -> x.partners(0, 5)));
        Due.thrown("6: closing taken", Due.STATE, Due.quiet(() -> x.partners(5, 95)));
        Due.thrown("6: the other way round", Due.STATE, Due.quiet(() -> x.partners(95, 0)));
        Due.thrown("6: told again", Due.STATE, Due.quiet(() -> x.partners(0, 95)));
        x.partners(5, 4);
        Directed.tell(x);
        x.partners(IN2, OUT2);
        Due.write(x, 0, R, IN2, R, OUT2, L);
        Due.same("6: they go together", "1 1 1 1 0", Due.levels(x, 0, 0));
        Due.write(x, 0, R, OUT2, R, IN2, L);
        Due.same("6: not turned", "1 1 1 0 0", Due.levels(x, 0, 0));
    }

    private static void promise7() {
        LetterTables x = new LetterTables();
        Due.thrown("7: language 2", Due.INDEX, Due.quiet(() -> x.weigh(2, 0, 0, 0, 0)));
        Due.thrown("7: language -1", Due.INDEX, Due.quiet(() -> x.weigh(-1, 0, 0, 0, 0)));
        Due.thrown("7: letter 96", Due.INDEX, Due.quiet(() -> x.weigh(0, 96, 100, 0, 0)));
        Due.thrown("7: letter -1", Due.INDEX, Due.quiet(() -> x.weigh(1, -1, 0, 0, 0)));
        int[][] wrong = {{-1, 0, 0}, {100, 0, 0}, {0, -1, 0}, {0, 10, 0}, {0, 0, -1}, {0, 0, 10}};
        for (int[] w : wrong) {
            Due.thrown("7: wrong", Due.ARGUMENT, Due.quiet(() -> x.weigh(1, 95, w[0], w[1], w[2])));
        }
        x.weigh(1, 95, 99, 9, 8);
        Due.write(x, 0, 95);
        Due.same("7: weights", "99 0 9 0 8", Due.key(x, 1, 0));
        Due.same("7: in the one language alone", "0 0", Due.key(x, 0, 0));
        x.weigh(1, 95, 0, 0, 0);
        Due.same("7: none again", "0 0", Due.key(x, 1, 0));
    }

    private static void promise8() {
        LetterTables x = new LetterTables();
        Due.thrown("8: language", Due.INDEX, () -> x.contract(2, 0, 0, 0, 0, 0));
        Due.thrown("8: one", Due.INDEX, () -> x.contract(0, 96, 0, 100, 0, 0));
        Due.thrown("8: other", Due.INDEX, () -> x.contract(0, 0, -1, 0, 0, 0));
        int[][] wrong = {{-1, 0, 0}, {100, 0, 0}, {0, -1, 0}, {0, 10, 0}, {0, 0, -1}, {0, 0, 10}};
        for (int[] w : wrong) {
            Due.thrown("8: wrong", Due.ARGUMENT, () -> x.contract(0, 1, 2, w[0], w[1], w[2]));
        }
        Due.is("8: first", 1, () -> x.contract(0, 1, 2, 99, 9, 9));
        Due.is("8: the other way round is another", 2, () -> x.contract(0, 2, 1, 7, 0, 0));
        Due.is("8: told anew", 2, () -> x.contract(0, 1, 2, 5, 4, 3));
        Due.is("8: the other language", 1, () -> x.contract(1, 95, 95, 1, 0, 0));
        for (int i = 3; i <= 6; i++) {
            int count = i;
            Due.is("8: more", count, () -> x.contract(0, 10, count, count, 0, 0));
        }
        Due.thrown("8: a seventh", Due.STATE, () -> x.contract(0, 11, 0, 1, 1, 1));
        Due.thrown("8: weights ahead of that", Due.ARGUMENT, () -> x.contract(0, 11, 0, 1, 1, 10));
        Due.is("8: other weights when full", 6, () -> x.contract(0, 10, 6, 66, 0, 0));
        x.weigh(0, 1, 1, 1, 1);
        x.weigh(0, 2, 2, 2, 2);
        Due.write(x, 0, 1, 1, 2, 2, 10, 6, 11, 0, 1);
        Due.same("8: key", "1 5 2 66 1 0 1 4 2 1 0 1 3 2 1", Due.key(x, 0, 0));
        Due.write(x, 0, 95, 95, 95, 95, 95);
        Due.same("8: from the left", "1 1 0 0", Due.key(x, 1, 0));
    }

    private static void promise9() {
        LetterTables x = new LetterTables();
        Due.thrown("9: language", Due.INDEX, () -> x.plural(2, 9, 1, 0, 0, 0, 0, 0));
        Due.thrown("9: language", Due.INDEX, () -> x.plural(-1, 0, 1, 0, 0, 0, 0, 0));
        int[][] wrong = {{-1, 1, 0, 0, 0, 0, 0}, {3, 1, 0, 0, 0, 0, 0}, {0, 0, 0, 0, 0, 0, 0}, {0, 101, 0, 0, 0, 0, 0},
            {0, 1, -1, 0, 0, 0, 0}, {0, 1, 100, 100, 0, 0, 0}, {0, 1, 5, 4, 0, 0, 0}, {0, 1, 0, 100, 0, 0, 0},
            {0, 1, 0, 0, -1, 0, 0}, {0, 1, 0, 0, 101, 0, 0}, {0, 1, 0, 0, 0, 1, 1}, {0, 1, 0, 0, 0, 0, 1},
            {0, 1, 0, 0, 1, -1, 0}, {0, 1, 0, 0, 1, 5, 4}, {0, 1, 0, 0, 1, 0, 100}, {0, 1, 0, 0, 1, 100, 100}};
        for (int[] w : wrong) {
            Due.thrown("9: wrong", Due.ARGUMENT, () -> x.plural(0, w[0], w[1], w[2], w[3], w[4], w[5], w[6]));
        }
        Due.is("9: first", 1, () -> x.plural(0, LetterTables.MANY, 100, 99, 99, 100, 99, 99));
        Due.is("9: second", 2, () -> x.plural(0, LetterTables.FEW, 100, 98, 99, 0, 0, 0));
        Due.is("9: the other language", 1, () -> x.plural(1, LetterTables.ONE, 1, 0, 0, 1, 1, 99));
        Due.is("9: third", 3, () -> x.plural(0, LetterTables.ONE, 10, 0, 99, 10, 0, 0));
        Due.is("9: fourth", 4, () -> x.plural(0, LetterTables.MANY, 1, 0, 0, 0, 0, 0));
        Due.thrown("9: a fifth", Due.STATE, () -> x.plural(0, 0, 1, 0, 0, 0, 0, 0));
        Due.thrown("9: arguments ahead of that", Due.ARGUMENT, () -> x.plural(0, 0, 0, 0, 0, 0, 0, 0));
        Due.is("9: never by the first", LetterTables.FEW, () -> x.classOf(0, 199));
        Due.is("9: the third", LetterTables.ONE, () -> x.classOf(0, 25));
        Due.is("9: the fourth", LetterTables.MANY, () -> x.classOf(0, 20));
        Due.is("9: the other language", LetterTables.ONE, () -> x.classOf(1, 20));
        LetterTables y = new LetterTables();
        Due.is("9: modulo 1 as the other number", 1, () -> y.plural(0, LetterTables.ONE, 1, 0, 0, 1, 0, 0));
        Due.is("9: never fits", N, () -> y.classOf(0, 20));
    }

    private static void promise10() {
        LetterTables x = new LetterTables();
        Due.thrown("10: slot", Due.INDEX, () -> x.addWord(6));
        Due.thrown("10: slot", Due.INDEX, () -> x.addWord(-1));
        Due.thrown("10: empty", Due.STATE, () -> x.addWord(0));
        Due.write(x, 0, 1, 2, 3, 4, 5, 6, 7, 8, 9);
        Due.thrown("10: nine letters", Due.STATE, () -> x.addWord(0));
        Due.write(x, 0, 1, 2, 3, 4, 5, 6, 7, 8);
        Due.is("10: eight letters", 1, () -> x.addWord(0));
        Due.write(x, 0, 1);
        for (int i = 2; i <= 6; i++) {
            int count = i;
            Due.is("10: one letter", count, () -> x.addWord(0));
        }
        Due.thrown("10: a seventh", Due.STATE, () -> x.addWord(0));
        for (int i = 1; i < 10; i++) {
            x.letter(i, 0, 3, LetterTables.SEAMLESS, i);
        }
        Due.write(x, 0, 1, 2, 3, 4, 5, 6, 7, 8, 9);
        Due.is("10: it is kept", 1 << 8, () -> x.breaks(0, 1));
    }

    private static void promise11() {
        LetterTables x = new LetterTables();
        Due.write(x, 1, 1);
        Due.write(x, 2, 1, 2);
        Due.write(x, 3, 1, 2, 3);
        Due.write(x, 4, 1, 2, 3, 4);
        int[][] gone = {{6, 1, 0, 0}, {0, 6, 0, 0}, {0, 1, 6, 0}, {0, 1, 0, 6}, {-1, 1, 0, 0}, {0, -1, 0, 0}};
        for (int[] w : gone) {
            Due.thrown("11: slot", Due.INDEX, () -> x.addRule(2, w[0], w[1], w[2], w[3]));
        }
        Due.thrown("11: pass 2", Due.ARGUMENT, () -> x.addRule(2, 0, 0, 0, 0));
        Due.thrown("11: pass -1", Due.ARGUMENT, () -> x.addRule(-1, 0, 1, 0, 0));
        int[][] wrong = {{3, 1, 0, 0}, {0, 4, 0, 0}, {0, 1, 3, 0}, {0, 1, 0, 4}, {0, 0, 0, 0}};
        for (int[] w : wrong) {
            Due.thrown("11: too long or empty", Due.STATE, () -> x.addRule(0, w[0], w[1], w[2], w[3]));
        }
        Due.is("11: the longest", 1, () -> x.addRule(1, 2, 3, 2, 3));
        Due.is("11: the shortest", 2, () -> x.addRule(0, 0, 1, 0, 0));
        for (int i = 3; i <= 8; i++) {
            int count = i;
            Due.is("11: more", count, () -> x.addRule(count % 2, 0, 1, 0, 2));
        }
        Due.thrown("11: a ninth", Due.STATE, () -> x.addRule(0, 0, 1, 0, 0));
        Due.thrown("11: pass ahead of that", Due.ARGUMENT, () -> x.addRule(2, 0, 1, 0, 0));
    }

    private static void promise12and13() {
        LetterTables x = new LetterTables();
        Due.thrown("13: none", Due.INDEX, Due.quiet(() -> x.use(0)));
        Due.thrown("13: -1", Due.INDEX, Due.quiet(() -> x.use(-1)));
        Due.is("12: the empty one", 0, x::save);
        tellAll(x);
        Due.is("12: the full one", 1, x::save);
        x.feed('x', 1);
        x.use(0);
        Due.is("13: the tape stays", 2, () -> x.feed('y', 1));
        Due.same("13: texts stay", "9", Due.read(x, 1));
        Due.same("13: the empty one", seen(new LetterTables()), seen(x));
        Due.is("13: nothing told", 1, () -> x.contract(1, 3, 3, 1, 1, 1));
        Due.is("13: nothing told", 1, () -> x.plural(0, 0, 1, 0, 0, 0, 0, 0));
        Due.write(x, 0, 7, 8);
        Due.is("13: nothing told", 1, () -> x.addWord(0));
        Due.is("13: nothing told", 1, () -> x.addRule(0, 5, 0, 5, 5));
        Due.is("13: no partners", 0, Due.quiet(() -> x.partners(OUT2, IN2)));
        dictionaries();
        versions();
    }

    private static void tellAll(LetterTables x) {
        Directed.tell(x);
        x.letter(1, 3, LetterTables.RIGHT, LetterTables.MARK, 2);
        x.split(5, 1, 2);
        x.capital(3, 4, 5);
        x.partners(IN2, OUT2);
        x.weigh(0, 3, 4, 5, 6);
        x.contract(1, 3, 3, 7, 8, 9);
        x.plural(0, LetterTables.FEW, 10, 2, 4, 0, 0, 0);
        Due.write(x, 0, 7, 8);
        x.letter(7, 0, 3, LetterTables.SEAMLESS, 7);
        x.letter(8, 0, 3, LetterTables.SEAMLESS, 8);
        x.addWord(0);
        Due.write(x, 1, 9);
        x.addRule(0, 5, 1, 5, 0);
    }

    /** One with an empty version 0 and a full version 1, by turns, and something told behind each. */
    private static LetterTables turned() {
        LetterTables x = new LetterTables();
        x.save();
        tellAll(x);
        x.save();
        x.use(0);
        x.contract(1, 3, 3, 1, 1, 1);
        x.plural(0, 0, 1, 0, 0, 0, 0, 0);
        x.addWord(1);
        x.partners(OUT2, IN2);
        x.use(1);
        x.split(5, 2, 1);
        x.use(1);
        return x;
    }

    private static void versions() {
        LetterTables told = new LetterTables();
        tellAll(told);
        String full = seen(told);
        Due.same("13: the full one", full, seen(turned()));
        LetterTables x = turned();
        x.use(1);
        Due.same("13: still the full one", full, seen(x));
        LetterTables y = turned();
        y.use(0);
        Due.same("13: what is told later does not come into it", seen(new LetterTables()), seen(y));
        Due.thrown("13: 2", Due.INDEX, Due.quiet(() -> y.use(2)));
        Due.is("12: third", 2, y::save);
        Due.is("12: fourth", 3, y::save);
        Due.thrown("12: a fifth", Due.STATE, y::save);
        Due.thrown("13: 4", Due.INDEX, Due.quiet(() -> y.use(4)));
        LetterTables z = turned();
        z.use(0);
        z.save();
        z.save();
        z.use(1);
        z.use(3);
        Due.same("13: the last one", seen(new LetterTables()), seen(z));
    }

    /** As many words in each version, but other ones. */
    private static void dictionaries() {
        LetterTables x = new LetterTables();
        for (int letter = 0; letter < 96; letter++) {
            x.letter(letter, 0, 3, LetterTables.SEAMLESS, letter);
        }
        x.save();
        Due.write(x, 0, 1, 2);
        Due.write(x, 1, 3, 4, 5);
        Due.write(x, 2, 1, 2, 3, 4, 5);
        x.addWord(0);
        x.addWord(0);
        Due.is("12: version 1", 1, x::save);
        Due.is("13: by version 1", 1 << 2 | 1 << 3 | 1 << 4, () -> x.breaks(2, 1));
        x.use(0);
        x.addWord(1);
        x.addWord(1);
        Due.is("12: version 2", 2, x::save);
        Due.is("13: by version 2", 1 << 1 | 1 << 2, () -> x.breaks(2, 1));
        x.use(1);
        Due.is("13: version 1 again", 1 << 2 | 1 << 3 | 1 << 4, () -> x.breaks(2, 1));
        Due.is("13: it goes on from there", 3, () -> x.addWord(1));
        Due.is("13: with both", 1 << 2, () -> x.breaks(2, 1));
        x.use(2);
        Due.is("13: version 2 again", 1 << 1 | 1 << 2, () -> x.breaks(2, 1));
    }

    /** What the tables that promise12and13 tells make of some texts. */
    private static String seen(LetterTables x) {
        StringBuilder all = new StringBuilder();
        int[][] texts = {{1, 3, 3, 5}, {R, IN2, R, OUT2, L}, {7, 8, 7, 8}, {9, 9}};
        for (int[] text : texts) {
            Due.write(x, 2, text);
            for (int form = 0; form < 4; form++) {
                x.form(2, form, 3);
                all.append(Due.read(x, 3)).append("; ");
            }
            all.append(Due.levels(x, 2, 0)).append("; ").append(x.breaks(2, 1)).append("; ");
            all.append(Due.key(x, 0, 2)).append("; ").append(Due.key(x, 1, 2)).append("; ");
            x.transliterate(2, 3, false);
            all.append(Due.read(x, 3)).append("; ").append(x.classOf(0, 13)).append("\n");
        }
        return all.toString();
    }

    private static void promise14to16() {
        LetterTables x = new LetterTables();
        Due.thrown("14: slot", Due.INDEX, () -> x.put(6, 0));
        Due.thrown("14: slot", Due.INDEX, () -> x.put(-1, 0));
        Due.thrown("14: letter", Due.INDEX, () -> x.put(0, 96));
        Due.thrown("14: letter", Due.INDEX, () -> x.put(0, -1));
        for (int i = 0; i < 40; i++) {
            int letter = 95 - i;
            Due.is("14: put", i + 1, () -> x.put(5, letter));
        }
        Due.thrown("14: full", Due.STATE, () -> x.put(5, 0));
        Due.thrown("14: letter ahead of that", Due.INDEX, () -> x.put(5, 96));
        Due.is("16: size", 40, () -> x.at(5, N));
        for (int i = 0; i < 40; i++) {
            int place = i;
            Due.is("16: at", 95 - i, () -> x.at(5, place));
        }
        Due.thrown("16: place 40", Due.INDEX, () -> x.at(5, 40));
        Due.thrown("16: place -2", Due.INDEX, () -> x.at(5, -2));
        Due.thrown("16: slot", Due.INDEX, () -> x.at(6, N));
        Due.thrown("16: slot", Due.INDEX, () -> x.at(-1, N));
        Due.is("16: another is empty", 0, () -> x.at(4, N));
        Due.thrown("16: nothing there", Due.INDEX, () -> x.at(4, 0));
        Due.thrown("15: slot", Due.INDEX, () -> x.clear(6));
        Due.thrown("15: slot", Due.INDEX, () -> x.clear(-1));
        Due.is("15: full", 40, () -> x.clear(5));
        Due.is("15: empty", 0, () -> x.clear(5));
        Due.is("15: is empty", 0, () -> x.at(5, N));
        Due.is("14: put again", 1, () -> x.put(5, 7));
        Due.thrown("16: what was there is gone", Due.INDEX, () -> x.at(5, 1));
    }

    private static void form(String what, LetterTables x, int form, String want, int... text) {
        Due.write(x, 0, text);
        Due.is(what, want.isEmpty() ? 0 : want.split(" ").length, () -> x.form(0, form, 1));
        Due.same(what, want, Due.read(x, 1));
        Due.is(what + ", the text stays", text.length, () -> x.at(0, N));
    }

    private static void promise17split() {
        LetterTables x = new LetterTables();
        for (int mark = 1; mark <= 9; mark++) {
            x.letter(20 + mark, mark, LetterTables.NEUTRAL, LetterTables.MARK, 20 + mark);
        }
        form("17: empty", x, 0, "");
        form("17: sorted", x, 0, "21 22 23", 23, 22, 21);
        form("17: not past the class 0", x, 0, "23 5 21 22", 23, 5, 22, 21);
        form("17: from the end", x, 0, "5 21 22 29", 5, 29, 22, 21);
        x.letter(31, 2, LetterTables.NEUTRAL, LetterTables.MARK, 31);
        form("17: alike stay", x, 0, "21 31 22 23", 31, 23, 22, 21);
        x.split(40, 5, 23);
        x.split(41, 40, 22);
        x.split(42, 21, 41);
        form("17: all at once", x, 0, "5 21 22 23 5 22 23", 41, 21, 41);
        form("17: marks come together", x, 0, "21 5 22 23", 42);
        form("17: a mark moves into what comes ahead", x, 0, "5 21 23 5 22 23", 40, 42);
        x.letter(40, 7, LetterTables.NEUTRAL, LetterTables.MARK, 40);
        form("17: the class of one that splits is nothing", x, 0, "5 21 23 5 22 23", 40, 42);
        // A text of 40 letters whose split form has 80, and one more.
        x.split(50, 1, 2);
        int[] full = new int[40];
        java.util.Arrays.fill(full, 50);
        Due.write(x, 0, full);
        Due.thrown("17: has more than 40", Due.STATE, () -> x.form(0, 0, 1));
        Due.is("17: can be looked at: 80", 0, () -> 1 - alike(x, 0, 0));
        x.split(51, 50, 1);
        full[39] = 51;
        Due.write(x, 0, full);
        Due.thrown("17: 81 can't", Due.STATE, () -> alike(x, 0, 0));
        int[] half = java.util.Arrays.copyOf(full, 20);
        Due.write(x, 0, half);
        Due.is("17: just 40", 40, () -> x.form(0, 0, 1));
        half[0] = 51;
        Due.write(x, 0, half);
        Due.thrown("17: 41", Due.STATE, () -> x.form(0, 0, 1));
        Due.is("17: the target stays", 40, () -> x.at(1, N));
        for (int letter = 60; letter < 96; letter++) {
            x.split(letter, letter - 1, letter - 1);
        }
        Due.write(x, 0, 95);
        for (int i = 0; i < 4; i++) {
            int form = i;
            Due.thrown("17: it grows far beyond, form " + i, Due.STATE, () -> x.form(0, form, 1));
        }
        Due.write(x, 0, 64);
        Due.is("17: 32 letters", 32, () -> x.form(0, 0, 0));
        Due.is("17: into itself", 32, () -> x.at(0, N));
    }

    private static void promise17joined() {
        LetterTables x = new LetterTables();
        for (int mark = 1; mark <= 9; mark++) {
            x.letter(20 + mark, mark, LetterTables.NEUTRAL, LetterTables.MARK, 20 + mark);
        }
        x.split(40, 5, 23);
        x.split(41, 5, 22);
        x.split(42, 41, 23);
        x.split(43, 41, 6);
        x.split(45, 5, 5);
        x.split(44, 5, 5);
        form("17: joined, empty", x, 1, "");
        form("17: joined", x, 1, "40", 5, 23);
        form("17: joined, behind a lesser one", x, 1, "40 21", 5, 21, 23);
        form("17: joined, further on", x, 1, "42 21", 5, 23, 22, 21);
        form("17: not behind one alike", x, 1, "40 23", 5, 23, 23);
        x.letter(33, 3, LetterTables.NEUTRAL, LetterTables.MARK, 33);
        form("17: in the way", x, 1, "5 33 23", 5, 33, 23);
        form("17: the class 0, side by side", x, 1, "43", 5, 22, 6);
        form("17: the class 0, not side by side", x, 1, "41 21 6", 5, 22, 21, 6);
        form("17: the lowest, one after the other", x, 1, "44 44", 5, 5, 5, 5);
        form("17: the lowest", x, 1, "44 5", 45, 5);
        form("17: a mark first", x, 1, "23 40", 23, 5, 23);
        form("17: nothing of the class 0 ahead", x, 1, "22 23", 23, 22);
        x.split(46, 6, 24);
        x.letter(46, 2, LetterTables.NEUTRAL, LetterTables.MARK, 46);
        x.split(47, 5, 25);
        form("17: what it became stands ahead by then", x, 1, "47 46", 5, 6, 24, 25);
        form("17: behind a lesser one of the class 0", x, 1, "5 46 22", 5, 6, 24, 22);
        x.letter(46, 9, LetterTables.NEUTRAL, LetterTables.MARK, 46);
        form("17: and may stand in the way", x, 1, "5 46 25", 5, 6, 24, 25);
        int[] full = new int[40];
        java.util.Arrays.fill(full, 45);
        Due.write(x, 0, full);
        Due.is("17: 80 on the way", 40, () -> x.form(0, 1, 1));
        x.split(48, 45, 5);
        full[0] = 48;
        Due.write(x, 0, full);
        Due.thrown("17: 81 on the way", Due.STATE, () -> x.form(0, 1, 1));
    }

    private static void promise17folded() {
        LetterTables x = new LetterTables();
        x.letter(21, 1, LetterTables.NEUTRAL, LetterTables.MARK, 21);
        x.letter(22, 9, LetterTables.NEUTRAL, LetterTables.MARK, 22);
        x.split(40, 5, 21);
        x.split(41, 40, 22);
        x.capital(1, 2, N);
        x.capital(2, 3, N);
        x.capital(4, 41, 40);
        x.capital(5, 6, N);
        x.capital(22, 1, 2);
        form("17: folded, empty", x, 2, "");
        form("17: once alone", x, 2, "2 3", 1, 2);
        form("17: it grows, and is split", x, 2, "5 5", 4);
        form("17: splitting comes last", x, 2, "5 6", 40, 5);
        form("17: marks go", x, 2, "2", 21, 1, 21);
        form("17: nothing is left", x, 2, "", 21, 21);
        form("17: marks with a capital form", x, 2, "1 2", 22);
        x.capital(7, 8, 8);
        int[] full = new int[40];
        java.util.Arrays.fill(full, 7);
        Due.write(x, 0, full);
        Due.thrown("17: folded, 80", Due.STATE, () -> x.form(0, 2, 1));
        int[] half = java.util.Arrays.copyOf(full, 20);
        Due.write(x, 0, half);
        Due.is("17: folded, 40", 40, () -> x.form(0, 2, 1));
        x.capital(9, 21, 40);
        java.util.Arrays.fill(full, 9);
        Due.write(x, 0, full);
        Due.thrown("17: folded, 120 on the way", Due.STATE, () -> x.form(0, 2, 1));
        java.util.Arrays.fill(full, 0, 14, 7);
        java.util.Arrays.fill(full, 14, 40, 21);
        full[38] = 9;
        full[39] = 9;
        Due.write(x, 0, full);
        Due.is("17: folded, 58 on the way", 30, () -> x.form(0, 2, 1));
        java.util.Arrays.fill(full, 9);
        java.util.Arrays.fill(full, 0, 20, 21);
        Due.write(x, 0, full);
        Due.is("17: folded, 80 on the way", 20, () -> x.form(0, 2, 1));
        full[0] = 40;
        Due.write(x, 0, full);
        Due.thrown("17: folded, 81 on the way", Due.STATE, () -> x.form(0, 2, 1));
    }

    private static void promise17skeleton() {
        LetterTables x = new LetterTables();
        x.letter(21, 1, LetterTables.NEUTRAL, LetterTables.MARK, 21);
        x.letter(22, 2, LetterTables.NEUTRAL, LetterTables.MARK, 21);
        x.letter(23, 3, LetterTables.NEUTRAL, LetterTables.MARK, 5);
        x.letter(1, 0, LetterTables.NEUTRAL, LetterTables.LETTER, 41);
        x.letter(40, 0, LetterTables.NEUTRAL, LetterTables.LETTER, 9);
        x.split(40, 5, 21);
        x.split(41, 40, 22);
        form("17: skeleton, empty", x, 3, "");
        form("17: split, put, split", x, 3, "5 21 22", 1);
        form("17: what splits is not looked at", x, 3, "5 21", 40);
        form("17: what it looks like, once alone", x, 3, "5 21 21", 41);
        form("17: sorted ahead", x, 3, "7 21 5", 7, 23, 21);
        x.letter(24, 4, LetterTables.NEUTRAL, LetterTables.MARK, 22);
        x.letter(25, 5, LetterTables.NEUTRAL, LetterTables.MARK, 21);
        form("17: sorted behind", x, 3, "7 21 22", 7, 24, 25);
        x.letter(8, 0, LetterTables.NEUTRAL, LetterTables.LETTER, 51);
        x.split(50, 1, 2);
        x.split(51, 50, 2);
        int[] text = new int[26];
        java.util.Arrays.fill(text, 8);
        x.letter(1, 0, LetterTables.NEUTRAL, LetterTables.LETTER, 1);
        Due.write(x, 0, text);
        Due.is("17: skeleton, 78", 1, () -> alike(x, 0, 0));
        x.put(0, 3);
        x.put(0, 3);
        Due.is("17: skeleton, 80", 1, () -> alike(x, 0, 0));
        x.put(0, 3);
        Due.thrown("17: skeleton, 81", Due.STATE, () -> alike(x, 0, 0));
        Due.thrown("17: skeleton, 81", Due.STATE, () -> x.form(0, 3, 1));
        x.split(60, 20, 20);
        for (int i = 61; i < 66; i++) {
            x.split(i, i - 1, i - 1);
        }
        Due.write(x, 0, 65, 63);
        Due.is("17: the first split form, 80", 1, () -> alike(x, 0, 0));
        x.put(0, 20);
        Due.thrown("17: the first split form, 81", Due.STATE, () -> alike(x, 0, 0));
    }

    private static void promise17wrong() {
        LetterTables x = new LetterTables();
        x.split(1, 0, 0);
        int[] full = new int[40];
        java.util.Arrays.fill(full, 1);
        Due.write(x, 0, full);
        Due.thrown("17: slot", Due.INDEX, () -> x.form(6, 4, 0));
        Due.thrown("17: slot", Due.INDEX, () -> x.form(-1, 0, 0));
        Due.thrown("17: target", Due.INDEX, () -> x.form(0, 4, 6));
        Due.thrown("17: target", Due.INDEX, () -> x.form(0, 0, -1));
        Due.thrown("17: form 4", Due.ARGUMENT, () -> x.form(0, 4, 1));
        Due.thrown("17: form -1", Due.ARGUMENT, () -> x.form(0, -1, 1));
        Due.thrown("17: too long", Due.STATE, () -> x.form(0, 0, 0));
        Due.is("17: nothing changed", 40, () -> x.at(0, N));
        Due.is("17: nothing changed", 1, () -> x.at(0, 39));
    }

    private static void promise18() {
        LetterTables x = new LetterTables();
        x.letter(1, 0, LetterTables.NEUTRAL, LetterTables.LETTER, 2);
        x.letter(21, 1, LetterTables.NEUTRAL, LetterTables.MARK, 21);
        x.split(40, 2, 21);
        Due.is("18: empty", 1, () -> alike(x, 0, 1));
        Due.write(x, 0, 1, 21);
        Due.write(x, 1, 40);
        Due.write(x, 2, 2);
        Due.is("18: alike", 1, () -> alike(x, 0, 1));
        Due.is("18: the other way round", 1, () -> alike(x, 1, 0));
        Due.is("18: one begins with the other", 0, () -> alike(x, 0, 2));
        Due.is("18: the other way round", 0, () -> alike(x, 2, 0));
        Due.is("18: itself", 1, () -> alike(x, 5, 5));
        Due.write(x, 3, 2, 20);
        Due.is("18: as long", 0, () -> alike(x, 0, 3));
        Due.thrown("18: slot", Due.INDEX, () -> alike(x, 6, 0));
        Due.thrown("18: other", Due.INDEX, () -> alike(x, 0, -1));
        for (int i = 61; i < 70; i++) {
            x.split(i, i - 1, i - 1);
        }
        Due.write(x, 4, 69);
        Due.thrown("18: one can't be looked at", Due.STATE, () -> alike(x, 4, 0));
        Due.thrown("18: the other can't", Due.STATE, () -> alike(x, 0, 4));
        Due.thrown("18: slot ahead of that", Due.INDEX, () -> alike(x, 4, 6));
    }
}
