/** An object with something in each of its parts, and all that can be seen of one, in a text. */
final class Rich {
    static final int N = LetterTables.NONE;
    static final String PATTERN = ".#02?";
    static final String TAPE = "c{1}";

    private Rich() {
    }

    /** What most calls can be made on: texts of two letters, two versions, a pattern, a tape that is a message. */
    static LetterTables ready() {
        return made(PATTERN, TAPE);
    }

    /** The same with another pattern, or null for none, and another tape. */
    static LetterTables made(String pattern, String tape) {
        LetterTables x = new LetterTables();
        x.letter(1, 0, LetterTables.RIGHT, LetterTables.LETTER, 9);
        x.letter(2, 2, LetterTables.NEUTRAL, LetterTables.MARK, 2);
        x.letter(3, 1, LetterTables.LEFT, LetterTables.MARK, 3);
        x.letter(10, 0, LetterTables.NEUTRAL, LetterTables.SEAMLESS, 10);
        x.letter(11, 0, LetterTables.NEUTRAL, LetterTables.SEAMLESS, 11);
        x.split(30, 1, 2);
        x.capital(4, 5, 6);
        x.partners(42, 43);
        x.weigh(0, 1, 5, 6, 7);
        x.contract(0, 1, 4, 50, 5, 5);
        x.plural(0, LetterTables.ONE, 10, 1, 1, 100, 11, 11);
        x.save();
        tellMore(x);
        x.save();
        x.letter(12, 0, LetterTables.NUMBER, LetterTables.DIGIT, 12);
        x.weigh(1, 4, 9, 1, 1);
        fill(x);
        Due.feed(x, "ab{0}");
        x.message(0, 7, 0, 0, 0);
        if (pattern != null) {
            Due.feed(x, pattern);
            x.pattern();
        }
        Due.feed(x, tape);
        return x;
    }

    private static void tellMore(LetterTables x) {
        x.letter(20, 0, LetterTables.EMBED_RIGHT, LetterTables.OTHER, 20);
        x.capital(5, 7, N);
        x.contract(1, 4, 4, 51, 0, 3);
        x.plural(1, LetterTables.FEW, 5, 2, 4, 0, 0, 0);
        Due.write(x, 0, 10, 11);
        x.addWord(0);
        Due.write(x, 0, 4);
        Due.write(x, 1, 5, 6);
        x.addRule(0, 2, 0, 2, 1);
        Due.write(x, 0, 5);
        Due.write(x, 1, 6);
        Due.write(x, 3, 8);
        x.addRule(1, 0, 1, 2, 3);
    }

    private static void fill(LetterTables x) {
        int[][] texts = {{50, 51}, {1, 2}, {30, 3}, {10, 11}, {42, 1}, {4, 5}};
        for (int slot = 0; slot < texts.length; slot++) {
            Due.write(x, slot, texts[slot]);
        }
    }

    /** Texts, out, tape, pattern, tables and versions, of any object; it is used up by that. */
    static String seen(LetterTables x) {
        StringBuilder all = new StringBuilder();
        for (int slot = 0; slot < 6; slot++) {
            all.append(Due.read(x, slot)).append("; ");
        }
        all.append(x.word(0)).append(' ').append(x.word(1)).append("\ntape: ");
        add(all, () -> x.feed(' ', 1));
        add(all, () -> x.message(0, 11, 22, 33, 44));
        add(all, () -> x.word(0));
        add(all, () -> x.word(19));
        all.append("\npattern: ");
        for (int slot = 1; slot < 5; slot++) {
            int from = slot;
            add(all, () -> x.match(from, 0));
        }
        Due.write(x, 0, 30, 3, 4, 1, 12, 42, 1, 43, 10, 11, 10, 4, 4, 20, 1);
        addTables(all, x);
        for (int version = 0; version < 4; version++) {
            int from = version;
            all.append("\nversion: ");
            add(all, Due.quiet(() -> x.use(from)));
            add(all, () -> x.form(0, 2, 1));
            all.append(Due.read(x, 1)).append("; ");
            add(all, () -> x.classOf(1, 2));
            add(all, () -> x.breaks(0, 1));
        }
        return all.toString();
    }

    private static void add(StringBuilder all, Due.Call call) {
        String got;
        try {
            got = Long.toString(call.go());
        } catch (RuntimeException e) {
            got = e.getClass().getSimpleName();
        }
        all.append(got).append(' ');
    }

    private static void addForms(StringBuilder all, LetterTables x) {
        for (int form = 0; form < 4; form++) {
            int which = form;
            add(all, () -> x.form(0, which, 1));
            all.append(Due.read(x, 1)).append("; ");
        }
    }

    private static void addTables(StringBuilder all, LetterTables x) {
        all.append("\ntables: ");
        addForms(all, x);
        all.append(Due.levels(x, 0, 0)).append("; ").append(x.breaks(0, 0)).append(' ').append(x.breaks(0, 1));
        all.append("; ").append(Due.key(x, 0, 0)).append("; ").append(Due.key(x, 1, 0)).append("; ");
        for (int number = 1; number < 12; number += 2) {
            all.append(x.classOf(0, number)).append(' ').append(x.classOf(1, number)).append(' ');
        }
        add(all, () -> x.transliterate(0, 1, false));
        all.append(Due.read(x, 1)).append("; ");
        add(all, () -> x.transliterate(0, 1, true));
        all.append(Due.read(x, 1)).append("; counts: ");
        Due.write(x, 1, 60);
        Due.write(x, 2);
        add(all, () -> x.addWord(1));
        add(all, () -> x.addRule(1, 2, 1, 2, 1));
        for (int language = 0; language < 2; language++) {
            int from = language;
            add(all, () -> x.contract(from, 90, 91, 1, 1, 1));
            add(all, () -> x.plural(from, 0, 1, 0, 0, 0, 0, 0));
        }
        for (int letter = 40; letter < 44; letter++) {
            int from = letter;
            add(all, Due.quiet(() -> x.partners(from, 60 + from - 40)));
        }
        add(all, x::save);
    }
}
