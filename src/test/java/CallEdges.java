import java.util.Arrays;
import java.util.List;
import java.util.function.Consumer;

/**
 * Each call of the face: every argument at both ends of what is allowed and one beyond each, several wrong at once, a
 * state that refuses the call, and that a refused call leaves all as it was.
 */
final class CallEdges {
    private static final int MIN = Integer.MIN_VALUE, MAX = Integer.MAX_VALUE;

    interface Ask {
        long ask(LetterTables x, int[] a);
    }

    interface Maker {
        LetterTables make();
    }

    /** An argument by the words of the document about it, or null; what is allowed while the others are right. */
    record Arg(String words, int least, int greatest, Class<? extends RuntimeException> wrong) {
    }

    private final String section;
    private final String name;
    private final int[] right;
    private final Ask ask;
    private final Arg[] args;
    /** An object that refuses the call by its state, and what such a one is when it has refused it. */
    private Maker stuck;
    private Maker left;
    /** An argument that is looked at only behind the state. */
    private int late = -1;

    private CallEdges(String section, String name, int[] right, Ask ask, Arg... args) {
        this.section = section;
        this.name = name;
        this.right = right;
        this.ask = ask;
        this.args = args;
    }

    private static Arg slot() {
        return new Arg(null, 0, 5, Due.INDEX);
    }

    private static Arg letter() {
        return new Arg(null, 0, 95, Due.INDEX);
    }

    private static Arg language() {
        return new Arg(null, 0, 1, Due.INDEX);
    }

    private static Arg place(String words, int least, int greatest) {
        return new Arg(words, least, greatest, Due.INDEX);
    }

    private static Arg range(String words, int least, int greatest) {
        return new Arg(words, least, greatest, Due.ARGUMENT);
    }

    static void all() {
        tables();
        languages();
        rows();
        versions();
        texts();
        directions();
        orders();
        tapes();
        questions();
    }

    // ---- the calls

    private static void tables() {
        new CallEdges("3", "letter", Due.row(5, 0, 0, 0, 5), (x, a) -> {
            x.letter(a[0], a[1], a[2], a[3], a[4]);
            return 0;
        }, letter(), range("joins: 0 to 9", 0, 9), range("direction: LEFT to POP_ISOLATE", 0, 10),
                range("kind: OTHER to SEAMLESS", 0, 6), range("like: 0 to 95: what it looks like", 0, 95)).go();
        new CallEdges("4", "split", Due.row(5, -1, -1), (x, a) -> {
            x.split(a[0], a[1], a[2]);
            return 0;
        }, letter(), range("NONE for not", -1, -1), range("NONE for not", -1, -1)).go();
        for (int letter : Due.row(1, 2, 5, 95)) {
            new CallEdges("4", "split " + letter, Due.row(0, 0), (x, a) -> {
                x.split(letter, a[0], a[1]);
                return 0;
            }, range("one: 0 to letter - 1", 0, letter - 1), range("other: 0 to letter - 1", 0, letter - 1)).go();
        }
        Ask capital = (x, a) -> {
            x.capital(a[0], a[1], a[2]);
            return 0;
        };
        new CallEdges("5", "capital", Due.row(5, 1, 2), capital, letter(), range("one: 0 to 95", 0, 95),
                range("other: 0 to 95", -1, 95)).go();
        new CallEdges("5", "capital", Due.row(5, -1, -1), capital, letter(), range("NONE for none", -1, 95),
                range("NONE for a form of one letter", -1, -1)).go();
        Consumer<LetterTables> taken = x -> x.partners(40, 7);
        new CallEdges("6", "partners", Due.row(40, 41), (x, a) -> {
            x.partners(a[0], a[1]);
            return 0;
        }, place("opening: the one that opens", 0, 95), place("closing: the one that closes", 0, 95)).stuck(taken).go();
    }

    private static void languages() {
        new CallEdges("7", "weigh", Due.row(0, 5, 1, 1, 1), (x, a) -> {
            x.weigh(a[0], a[1], a[2], a[3], a[4]);
            return 0;
        }, language(), letter(), range("first: 0 to 99", 0, 99), range("second: 0 to 9", 0, 9),
                range("third: 0 to 9", 0, 9)).go();
        Consumer<LetterTables> six = x -> {
            for (int i = 0; i < 5; i++) {
                x.contract(0, 80, i, 1, 1, 1);
            }
        };
        new CallEdges("8", "contract", Due.row(0, 5, 6, 1, 1, 1), (x, a) -> x.contract(a[0], a[1], a[2], a[3], a[4], a[5]),
                language(), place("one: a letter", 0, 95), place("other: a letter", 0, 95),
                range("first: 0 to 99", 0, 99), range("second: 0 to 9", 0, 9), range("third: 0 to 9", 0, 9))
                .stuck(six).go();
        Consumer<LetterTables> four = x -> {
            for (int i = 0; i < 3; i++) {
                x.plural(0, LetterTables.MANY, 1, 0, 0, 0, 0, 0);
            }
        };
        Ask plural = (x, a) -> x.plural(a[0], a[1], a[2], a[3], a[4], a[5], a[6], a[7]);
        new CallEdges("9", "plural", Due.row(0, 1, 10, 2, 4, 100, 12, 14), plural, language(),
                range("number: ONE to MANY", 0, 2), range("modulo: 1 to 100", 1, 100), range(null, 0, 4),
                range("to: from to 99", 2, 99), range(null, 1, 100), range(null, 0, 14),
                range("otherTo: otherFrom to 99", 12, 99)).stuck(four).go();
        new CallEdges("9", "plural", Due.row(0, 1, 10, 2, 4, 0, 0, 0), plural, language(), range(null, 0, 2),
                range(null, 1, 100), range(null, 0, 4), range(null, 2, 99),
                range("other: 1 to 100, or 0 for no other number", 0, 100), range("0 without another number", 0, 0),
                range("0 likewise", 0, 0)).stuck(four).go();
        new CallEdges("9", "plural", Due.row(0, 1, 100, 0, 99, 1, 0, 99), plural, language(), range(null, 0, 2),
                range(null, 1, 100), range("from: 0 to 99", 0, 99), range(null, 0, 99), range(null, 1, 100),
                range("otherFrom: 0 to 99", 0, 99), range(null, 0, 99)).go();
    }

    private static void rows() {
        new CallEdges("10", "addWord", Due.row(3), (x, a) -> x.addWord(a[0]), slot()).stuck(x -> {
            for (int i = 0; i < 5; i++) {
                x.addWord(1);
            }
        }).go();
        new CallEdges("11", "addRule", Due.row(0, 1, 1, 1, 1), (x, a) -> x.addRule(a[0], a[1], a[2], a[3], a[4]),
                range("pass: 0 or 1", 0, 1), place("ahead: a slot", 0, 5), place("source: a slot", 0, 5),
                place("behind: a slot", 0, 5), place("target: a slot", 0, 5)).stuck(x -> {
                    for (int i = 0; i < 6; i++) {
                        x.addRule(1, 0, 0, 0, 0);
                    }
                }).go();
    }

    private static void versions() {
        new CallEdges("12", "save", Due.row(), (x, a) -> x.save()).stuck(x -> {
            x.save();
            x.save();
        }).go();
        new CallEdges("13", "use", Due.row(1), (x, a) -> {
            x.use(a[0]);
            return 0;
        }, place(null, 0, 1)).go();
    }

    private static void fill(LetterTables x, int slot, int letter, int size) {
        int[] letters = new int[size];
        Arrays.fill(letters, letter);
        Due.write(x, slot, letters);
    }

    /** A text in the slot 0 that cannot be looked at: one letter that splits into 512. */
    private static void hide(LetterTables x) {
        for (int letter = 61; letter < 70; letter++) {
            x.split(letter, letter - 1, letter - 1);
        }
        Due.write(x, 0, 69);
    }

    private static void texts() {
        new CallEdges("14", "put", Due.row(0, 5), (x, a) -> x.put(a[0], a[1]), slot(), letter())
                .stuck(x -> fill(x, 0, 50, 40)).go();
        new CallEdges("15", "clear", Due.row(0), (x, a) -> x.clear(a[0]), slot()).go();
        new CallEdges("16", "at", Due.row(0, 0), (x, a) -> x.at(a[0], a[1]), slot(), place(null, -1, 1)).go();
        new CallEdges("17", "form", Due.row(0, 0, 1), (x, a) -> x.form(a[0], a[1], a[2]), slot(),
                range("form: 0 split, 1 joined, 2 folded, 3 the skeleton", 0, 3), slot()).stuck(CallEdges::hide).go();
        Ask alike = (x, a) -> x.looksLike(a[0], a[1]) ? 1 : 0;
        new CallEdges("18", "looksLike", Due.row(0, 1), alike, slot(), slot()).stuck(CallEdges::hide).go();
        new CallEdges("18", "looksLike", Due.row(1, 0), alike, slot(), slot()).stuck(CallEdges::hide).go();
    }

    private static void directions() {
        new CallEdges("19", "base", Due.row(0), (x, a) -> x.base(a[0]), slot()).go();
        new CallEdges("20", "level", Due.row(0, 0, 0), (x, a) -> x.level(a[0], a[1], a[2]), slot(), place(null, 0, 1),
                range("base: 0, 1, or NONE: not told", -1, 1)).go();
        new CallEdges("21", "shown", Due.row(0, 0, 0), (x, a) -> x.shown(a[0], a[1], a[2]), slot(), place(null, 0, 1),
                range("base: 0, 1, or NONE", -1, 1)).go();
        for (int right = 0; right < 2; right++) {
            boolean is = right == 1;
            new CallEdges("22", "bySight", Due.row(0, 0), (x, a) -> x.bySight(a[0], a[1], is), slot(), place(null, 0, 1))
                    .go();
            new CallEdges("24", "bySense", Due.row(0, 0), (x, a) -> x.bySense(a[0], a[1], is), slot(),
                    place("place: 0 to how many letters it has", 0, 2)).go();
        }
        new CallEdges("23", "breaks", Due.row(0, 0), (x, a) -> x.breaks(a[0], a[1]), slot(),
                range("what: 0 of clusters, 1 of words, 2 of lines", 0, 2)).go();
    }

    private static void orders() {
        Ask compare = (x, a) -> x.compare(a[0], a[1], a[2]);
        new CallEdges("25", "compare", Due.row(0, 0, 1), compare, language(), slot(), slot()).stuck(CallEdges::hide).go();
        new CallEdges("25", "compare", Due.row(1, 1, 0), compare, language(), slot(), slot()).stuck(CallEdges::hide).go();
        CallEdges key = new CallEdges("26", "key", Due.row(0, 0, 0), (x, a) -> x.key(a[0], a[1], a[2]), language(), slot(),
                place("ahead of a place that there is not", -1, 1)).stuck(CallEdges::hide);
        key.late = 2;
        key.go();
        Ask find = (x, a) -> x.find(a[0], a[1], a[2]);
        new CallEdges("27", "find", Due.row(0, 1, 0), find, slot(), slot(), range("from: 0 to 40", 0, 40))
                .stuck(CallEdges::hide).go();
        new CallEdges("27", "find", Due.row(1, 0, 40), find, slot(), slot(), range("from: 0 to 40", 0, 40))
                .stuck(CallEdges::hide).go();
        new CallEdges("29", "match", Due.row(0, 0), (x, a) -> x.match(a[0], a[1]), slot(),
                place("place: 0 to how many letters it has", 0, 2)).stuck(null, Rich.TAPE).go();
        for (int pass = 0; pass < 2; pass++) {
            int in = pass;
            new CallEdges("30", "transliterate", Due.row(0, 1), (x, a) -> x.transliterate(a[0], a[1], in == 1), slot(),
                    slot()).stuck(x -> grow(x, in)).go();
        }
        new CallEdges("31", "classOf", Due.row(0, 5), (x, a) -> x.classOf(a[0], a[1]), language(),
                range("number: 0 to 999999", 0, 999999)).go();
    }

    /** A text of 14 letters in the slot 0 that a pass makes 42 of: forth in the first one, back in the second one. */
    private static void grow(LetterTables x, int pass) {
        Due.write(x, 1);
        fill(x, 2, 53, 3);
        Due.write(x, 3, 52);
        x.addRule(pass, 1, pass == 0 ? 3 : 2, 1, pass == 0 ? 2 : 3);
        fill(x, 0, 52, 14);
    }

    private static void tapes() {
        new CallEdges("2", "feed", Due.row(1), (x, a) -> x.feed(65, a[0]), range("n: 1 to 8", 1, 8)).stuck(x -> {
            for (int i = Rich.TAPE.length(); i < 160; i += 4) {
                x.feed(0x64646464L, 4);
            }
        }).go();
        new CallEdges("28", "pattern", Due.row(), (x, a) -> x.pattern()).stuck(Rich.PATTERN, "*").go();
        new CallEdges("32", "message", Due.row(0, 1, 1, 1, 1), (x, a) -> x.message(a[0], a[1], a[2], a[3], a[4]),
                language(), range("one: 0 to 999999", 0, 999999), range("two: likewise", 0, 999999),
                range("three: likewise", 0, 999999), range("four: likewise", 0, 999999))
                .stuck(Rich.PATTERN, "{").go();
        new CallEdges("34", "encode", Due.row(0), (x, a) -> x.encode(a[0]), slot()).go();
        new CallEdges("35", "decode", Due.row(0), (x, a) -> x.decode(a[0]), place("the tape stays", 0, 5))
                .stuck(Rich.PATTERN, "a".repeat(41)).go();
    }

    private CallEdges stuck(Consumer<LetterTables> telling) {
        stuck = () -> {
            LetterTables x = Rich.ready();
            telling.accept(x);
            return x;
        };
        left = stuck;
        return this;
    }

    /** Refused by another pattern or tape; a tape that is taken over is used up. */
    private CallEdges stuck(String pattern, String tape) {
        boolean isTakenOver = !tape.equals(Rich.TAPE);
        stuck = () -> Rich.made(pattern, tape);
        left = () -> Rich.made(pattern, isTakenOver ? "" : tape);
        return this;
    }

    // ---- what is asked of each

    private void go() {
        for (int i = 0; i < args.length; i++) {
            int at = i;
            String words = args[i].words == null ? "Throws " + args[i].wrong.getSimpleName() : args[i].words;
            Said.so(section, words, () -> ends(at));
            Said.so("Terms", "A call that throws changes nothing else than told.", () -> stays(at));
        }
        for (Class<? extends RuntimeException> wrong : List.of(Due.INDEX, Due.ARGUMENT)) {
            if (Arrays.stream(args).anyMatch(arg -> arg.wrong == wrong)) {
                Said.so(section, "Throws " + wrong.getSimpleName(), () -> several(Rich::ready, false, wrong));
            }
        }
        if (stuck != null) {
            Said.so(section, "Throws IllegalStateException", this::refused);
        }
        if (stuck != null && args.length > 0) {
            Said.so("Terms", "the one that it lists first is thrown", () -> several(stuck, true, null));
        }
    }

    private String told(int[] a) {
        return name + Arrays.toString(a);
    }

    private int[] with(int at, int value) {
        int[] a = right.clone();
        a[at] = value;
        return a;
    }

    private void ends(int at) {
        Arg arg = args[at];
        for (int value : Due.row(arg.least, arg.greatest, right[at])) {
            int[] a = with(at, value);
            LetterTables x = Rich.ready();
            Due.goes(told(a), () -> ask.ask(x, a));
        }
        for (int value : Due.row(arg.least - 1, arg.greatest + 1, arg.least - 2, arg.greatest + 100, MIN, MAX)) {
            int[] a = with(at, value);
            LetterTables x = Rich.ready();
            Due.thrown(told(a), arg.wrong, () -> ask.ask(x, a));
        }
    }

    /** Several wrong arguments at once: the exception that stands first in the list is thrown; those due one, or all. */
    private void several(Maker maker, boolean isStuck, Class<? extends RuntimeException> only) {
        for (int set = 1; set < 1 << args.length; set++) {
            for (boolean isBelow : new boolean[] {false, true}) {
                int[] a = right.clone();
                for (int i = 0; i < args.length; i++) {
                    if ((set >>> i & 1) != 0) {
                        a[i] = isBelow ? MIN : args[i].greatest + 100;
                    }
                }
                Class<? extends RuntimeException> due = first(set, isStuck);
                if (only == null || only == due) {
                    LetterTables x = maker.make();
                    Due.thrown(told(a) + (isStuck ? " in a state that refuses it" : ""), due, () -> ask.ask(x, a));
                }
            }
        }
    }

    private Class<? extends RuntimeException> first(int set, boolean isStuck) {
        Class<? extends RuntimeException> due = null;
        for (int i = 0; i < args.length; i++) {
            boolean isWrong = (set >>> i & 1) != 0;
            if (isWrong && isStuck && i == late) {
                due = due == null ? Due.STATE : due;
            } else if (isWrong && (args[i].wrong == Due.INDEX || due == null)) {
                due = args[i].wrong;
            }
        }
        return due;
    }

    private void refused() {
        LetterTables x = stuck.make();
        Due.thrown(told(right) + " in a state that refuses it", Due.STATE, () -> ask.ask(x, right));
        Due.same(told(right) + " refused leaves", Rich.seen(left.make()), Rich.seen(x));
    }

    private void stays(int at) {
        for (int value : Due.row(args[at].least - 1, args[at].greatest + 1)) {
            LetterTables x = Rich.ready();
            int[] a = with(at, value);
            Due.thrown(told(a), args[at].wrong, () -> ask.ask(x, a));
            Due.same(told(a) + " refused leaves", Rich.seen(Rich.ready()), Rich.seen(x));
        }
    }

    /** Calls that only ask leave all as it was. */
    private static void questions() {
        Said.so("Terms", "forms, levels, breaks, keys, matches and messages can be asked for", () -> {
            LetterTables x = Rich.ready();
            long sum = 0;
            for (int slot = 0; slot < 6; slot += 2) {
                sum += x.at(slot, 0) + (x.looksLike(slot, 1) ? 1 : 0) + x.base(slot) + x.level(slot, 1, 1);
                sum += x.shown(slot, 1, 0) + x.bySight(slot, 0, true) + x.breaks(slot, 2) + x.bySense(slot, 1, true);
                sum += x.compare(1, slot, 1) + x.key(0, slot, 0) + x.find(slot, 1, 0) + x.match(slot, 1);
                sum += x.classOf(1, slot) + x.word(slot);
            }
            Due.same("questions leave, " + (sum == 0), Rich.seen(Rich.ready()), Rich.seen(x));
        });
    }
}
