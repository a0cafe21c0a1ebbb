import java.util.ArrayList;
import java.util.List;

/**
 * Runs of calls, always the same, on new objects and on the model of the document: each answer, each exception, and
 * after each call that throws all that can be seen of the texts and the out.
 */
public final class ModelTest {
    private static final int RUNS = 8000;
    /** How long an object is used, what is asked to see all of it counted too. */
    private static final int CALLS = 512;

    // What a run may be sharper at: all joining classes, SEAMLESS letters, partners, versions.
    private static final int CLASSES = 0;
    private static final int SEAMLESS = 1;
    private static final int PARTNERS = 2;
    private static final int VERSIONS = 3;

    private static int wrong;
    private static long seed;

    // What the run of now writes its texts with, and how often it tells of tables when it is beyond its beginning.
    private static int[] pool;
    private static int telling;
    private static int sharp;

    private ModelTest() {
    }

    public static void main(String[] args) {
        int runs = args.length > 0 ? Integer.parseInt(args[0]) : RUNS;
        int first = args.length > 1 ? Integer.parseInt(args[1]) : 1;
        for (int run = first; run < first + runs && wrong < 5; run++) {
            go(run);
        }
        System.out.println(runs + " runs of " + CALLS + " calls, " + wrong + " wrong");
        System.exit(wrong == 0 ? 0 : 1);
    }

    private static int any(int count) {
        seed = seed * 6364136223846793005L + 1442695040888963407L;
        return (int) ((seed >>> 33) % count);
    }

    private static boolean once(int in) {
        return any(in) == 0;
    }

    private static void go(int run) {
        seed = run * 1000003L;
        any(2);
        pool = new int[3 + any(14)];
        for (int i = 0; i < pool.length; i++) {
            pool[i] = any(96);
        }
        telling = 5 + any(40);
        sharp = any(7);
        LetterTables x = new LetterTables();
        Model m = new Model();
        List<String> made = new ArrayList<>();
        int beginning = 20 + any(60);
        int calls = 0;
        for (int i = 0; wrong < 5; i++) {
            Step step = i < beginning ? tables() : i % 3 == 0 ? texts() : once(telling) ? tables() : asked();
            // A step leaves at most 40 letters more to be seen in the end.
            boolean isLast = calls + step.calls + cost(m) + 40 > CALLS;
            if (!isLast) {
                calls += step.calls;
                made.add(step.name);
            }
            String got = isLast ? "the end" : answer(step.program, x);
            String due = isLast ? "the end" : answer(step.model, m);
            boolean isSeen = isLast || calls + 2 * cost(m) < CALLS && (got.startsWith("throws") ? once(3) : once(60));
            if (isSeen && got.equals(due)) {
                calls += cost(m);
                got += " and left " + seen(x::at, x::word);
                due += " and left " + seen(m::at, m::word);
            }
            if (!got.equals(due)) {
                wrong++;
                System.out.println("run " + run + ", call " + calls + ": " + made.get(made.size() - 1) + " answered "
                        + got + ", due is " + due + "\n  after " + made);
                return;
            }
            if (isLast) {
                return;
            }
        }
    }

    private interface At {
        int at(int slot, int place);
    }

    private interface Word {
        long word(int i);
    }

    private interface Ask<T> {
        long ask(T object);
    }

    /** A step by so many calls at the most. */
    private record Step(String name, Ask<LetterTables> program, Ask<Model> model, int calls) {
        Step(String name, Ask<LetterTables> program, Ask<Model> model) {
            this(name, program, model, 1);
        }
    }

    private static <T> String answer(Ask<T> ask, T object) {
        try {
            return Long.toString(ask.ask(object));
        } catch (RuntimeException e) {
            return "throws." + e.getClass().getSimpleName();
        }
    }

    /** How many calls 'seen' takes. */
    private static int cost(Model m) {
        int cost = 6 + 26;
        for (int slot = 0; slot < 6; slot++) {
            cost += m.at(slot, -1);
        }
        return cost;
    }

    private static String seen(At at, Word word) {
        StringBuilder all = new StringBuilder();
        for (int slot = 0; slot < 6; slot++) {
            int size = at.at(slot, -1);
            for (int i = 0; i < size; i++) {
                all.append(at.at(slot, i)).append(' ');
            }
            all.append("; ");
        }
        for (int i = 0; i < 26; i++) {
            all.append(word.word(i)).append(' ');
        }
        return all.toString();
    }

    // ---- arguments: mostly what there is, now and then one beyond it

    private static int within(int least, int most) {
        if (once(60)) {
            int[] odd = {least - 1, most + 1, least - 2, Integer.MIN_VALUE, Integer.MAX_VALUE, most + 100};
            return odd[any(odd.length)];
        }
        if (once(12)) {
            return once(2) ? least : most;
        }
        return least > most ? least : least + any(most - least + 1);
    }

    private static int letter() {
        return once(25) ? within(0, 95) : pool[any(pool.length)];
    }

    private static int slot() {
        return within(0, 5);
    }

    private static int place() {
        return once(3) ? within(-1, 40) : any(8);
    }

    private static int lesser(int letter) {
        for (int i = 0; i < 6; i++) {
            int one = pool[any(pool.length)];
            if (one < letter) {
                return one;
            }
        }
        return within(0, letter - 1);
    }

    private static int number() {
        return once(2) ? any(25) : once(2) ? any(5) : within(0, 999999);
    }

    // ---- calls

    private static Step tables() {
        if (sharp == VERSIONS && once(3)) {
            return versionStep();
        }
        if (sharp == PARTNERS && once(3)) {
            return partnersStep();
        }
        switch (any(12)) {
            case 0:
            case 1:
            case 2:
                return letterStep();
            case 3:
                return splitStep();
            case 4:
                return capitalStep();
            case 5:
                return partnersStep();
            case 6:
                return weighStep();
            case 7:
                return contractStep();
            case 8:
                return pluralStep();
            case 9:
                return wordStep();
            case 10:
                return ruleStep();
            default:
                return once(2) ? texts() : versionStep();
        }
    }

    private static Step letterStep() {
        int l = letter();
        int joins = once(2) ? 0 : within(0, sharp == CLASSES ? 9 : 3);
        boolean isNeutral = once(sharp == PARTNERS ? 2 : 3);
        int direction = isNeutral ? LetterTables.NEUTRAL : once(2) ? any(3) : within(0, 10);
        int kind = sharp == SEAMLESS && once(2) ? LetterTables.SEAMLESS : within(0, 6);
        int like = once(2) ? l : letter();
        return quiet("letter(" + l + ", " + joins + ", " + direction + ", " + kind + ", " + like + ")",
                x -> x.letter(l, joins, direction, kind, like), m -> m.letter(l, joins, direction, kind, like));
    }

    private interface Quiet<T> {
        void go(T object);
    }

    private static Step quiet(String name, Quiet<LetterTables> program, Quiet<Model> model) {
        return new Step(name, x -> {
            program.go(x);
            return 0;
        }, m -> {
            model.go(m);
            return 0;
        });
    }

    private static Step splitStep() {
        int l = letter();
        int one = once(8) ? -1 : lesser(l);
        int other = one == -1 && !once(10) ? -1 : lesser(l);
        return quiet("split(" + l + ", " + one + ", " + other + ")", x -> x.split(l, one, other),
                m -> m.split(l, one, other));
    }

    private static Step capitalStep() {
        int l = letter();
        int one = once(6) ? -1 : letter();
        int other = once(2) || one == -1 && !once(10) ? -1 : letter();
        return quiet("capital(" + l + ", " + one + ", " + other + ")", x -> x.capital(l, one, other),
                m -> m.capital(l, one, other));
    }

    private static Step partnersStep() {
        int one = letter();
        int other = letter();
        return quiet("partners(" + one + ", " + other + ")", x -> x.partners(one, other), m -> m.partners(one, other));
    }

    private static Step weighStep() {
        int language = within(0, 1);
        int l = letter();
        int first = once(3) ? 0 : once(2) ? any(4) : within(0, 99);
        int second = once(2) ? 0 : within(0, 9);
        int third = once(2) ? 0 : within(0, 9);
        return quiet("weigh(" + language + ", " + l + ", " + first + ", " + second + ", " + third + ")",
                x -> x.weigh(language, l, first, second, third), m -> m.weigh(language, l, first, second, third));
    }

    private static Step contractStep() {
        int language = within(0, 1);
        int one = letter();
        int other = letter();
        int first = once(3) ? 0 : within(0, 99);
        int second = within(0, 9);
        int third = within(0, 9);
        String name = "contract(" + language + ", " + one + ", " + other + ", " + first + ", " + second + ", " + third;
        return new Step(name + ")", x -> x.contract(language, one, other, first, second, third),
                m -> m.contract(language, one, other, first, second, third));
    }

    private static Step pluralStep() {
        int language = within(0, 1);
        int number = within(0, 2);
        int modulo = once(2) ? 10 : within(1, 100);
        int from = once(2) ? any(10) : within(0, 99);
        int to = once(2) ? from : within(Math.min(99, Math.max(0, from)), 99);
        int other = once(2) ? 0 : once(2) ? 100 : within(0, 100);
        boolean isNone = other == 0 && !once(10);
        int otherFrom = isNone ? 0 : once(2) ? any(20) : within(0, 99);
        int otherTo = isNone ? 0 : within(Math.min(99, Math.max(0, otherFrom)), 99);
        String name = "plural(" + language + ", " + number + ", " + modulo + ", " + from + ", " + to + ", " + other + ", "
                + otherFrom + ", " + otherTo + ")";
        return new Step(name, x -> x.plural(language, number, modulo, from, to, other, otherFrom, otherTo),
                m -> m.plural(language, number, modulo, from, to, other, otherFrom, otherTo));
    }

    private static Step wordStep() {
        int slot = slot();
        return new Step("addWord(" + slot + ")", x -> x.addWord(slot), m -> m.addWord(slot));
    }

    private static Step ruleStep() {
        int pass = within(0, 1);
        int ahead = slot();
        int source = slot();
        int behind = slot();
        int target = slot();
        return new Step("addRule(" + pass + ", " + ahead + ", " + source + ", " + behind + ", " + target + ")",
                x -> x.addRule(pass, ahead, source, behind, target),
                m -> m.addRule(pass, ahead, source, behind, target));
    }

    private static Step versionStep() {
        if (once(2)) {
            return new Step("save()", LetterTables::save, Model::save);
        }
        int version = within(0, 3);
        return quiet("use(" + version + ")", x -> x.use(version), m -> m.use(version));
    }

    private static Step texts() {
        if (once(14)) {
            int slot = slot();
            return new Step("clear(" + slot + ")", x -> x.clear(slot), m -> m.clear(slot));
        }
        if (once(20)) {
            int slot = slot();
            int place = place();
            return new Step("at(" + slot + ", " + place + ")", x -> x.at(slot, place), m -> m.at(slot, place));
        }
        int slot = once(2) ? any(2) : slot();
        int l = letter();
        return new Step("put(" + slot + ", " + l + ")", x -> x.put(slot, l), m -> m.put(slot, l));
    }

    private static Step asked() {
        switch (any(18)) {
            case 0:
                return formStep();
            case 1:
                return likeStep();
            case 2:
            case 3:
            case 4:
                return directionStep();
            case 5:
                return sightStep();
            case 6:
            case 7:
                return breakStep();
            case 8:
                return senseStep();
            case 9:
                return compareStep();
            case 10:
                return keyStep();
            case 11:
                return findStep();
            case 12:
                return goesStep();
            case 13:
                return once(2) ? classStep() : encodeStep();
            case 14:
            case 15:
                return matchStep();
            default:
                return tapeStep();
        }
    }

    private static Step formStep() {
        int slot = slot();
        int form = within(0, 3);
        int target = slot();
        return new Step("form(" + slot + ", " + form + ", " + target + ")", x -> x.form(slot, form, target),
                m -> m.form(slot, form, target));
    }

    private static Step likeStep() {
        int slot = slot();
        int other = slot();
        return new Step("looksLike(" + slot + ", " + other + ")", x -> x.looksLike(slot, other) ? 1 : 0,
                m -> m.looksLike(slot, other) ? 1 : 0);
    }

    private static Step directionStep() {
        int slot = once(2) ? any(2) : slot();
        int place = place();
        int base = within(-1, 1);
        if (once(6)) {
            return new Step("base(" + slot + ")", x -> x.base(slot), m -> m.base(slot));
        }
        if (once(2)) {
            return new Step("level(" + slot + ", " + place + ", " + base + ")", x -> x.level(slot, place, base),
                    m -> m.level(slot, place, base));
        }
        return new Step("shown(" + slot + ", " + place + ", " + base + ")", x -> x.shown(slot, place, base),
                m -> m.shown(slot, place, base));
    }

    private static Step sightStep() {
        int slot = slot();
        int place = place();
        boolean isRight = once(2);
        return new Step("bySight(" + slot + ", " + place + ", " + isRight + ")", x -> x.bySight(slot, place, isRight),
                m -> m.bySight(slot, place, isRight));
    }

    private static Step breakStep() {
        int slot = slot();
        int what = within(0, 2);
        return new Step("breaks(" + slot + ", " + what + ")", x -> x.breaks(slot, what), m -> m.breaks(slot, what));
    }

    private static Step senseStep() {
        int slot = slot();
        int place = place();
        boolean isOn = once(2);
        return new Step("bySense(" + slot + ", " + place + ", " + isOn + ")", x -> x.bySense(slot, place, isOn),
                m -> m.bySense(slot, place, isOn));
    }

    private static Step compareStep() {
        int language = within(0, 1);
        int slot = slot();
        int other = slot();
        return new Step("compare(" + language + ", " + slot + ", " + other + ")",
                x -> x.compare(language, slot, other), m -> m.compare(language, slot, other));
    }

    private static Step keyStep() {
        int language = within(0, 1);
        int slot = slot();
        int place = once(3) ? within(-1, 50) : place();
        return new Step("key(" + language + ", " + slot + ", " + place + ")", x -> x.key(language, slot, place),
                m -> m.key(language, slot, place));
    }

    private static Step findStep() {
        int slot = once(2) ? any(2) : slot();
        int wanted = slot();
        int from = once(2) ? 0 : within(0, 40);
        return new Step("find(" + slot + ", " + wanted + ", " + from + ")", x -> x.find(slot, wanted, from),
                m -> m.find(slot, wanted, from));
    }

    private static Step goesStep() {
        int slot = once(2) ? any(2) : slot();
        int target = slot();
        boolean isBack = once(2);
        return new Step("transliterate(" + slot + ", " + target + ", " + isBack + ")",
                x -> x.transliterate(slot, target, isBack), m -> m.transliterate(slot, target, isBack));
    }

    private static Step classStep() {
        int language = within(0, 1);
        int number = number();
        return new Step("classOf(" + language + ", " + number + ")", x -> x.classOf(language, number),
                m -> m.classOf(language, number));
    }

    private static Step encodeStep() {
        int slot = slot();
        return new Step("encode(" + slot + ")", x -> x.encode(slot), m -> m.encode(slot));
    }

    private static Step matchStep() {
        int slot = once(2) ? any(2) : slot();
        int place = once(2) ? 0 : place();
        return new Step("match(" + slot + ", " + place + ")", x -> x.match(slot, place), m -> m.match(slot, place));
    }

    /** What takes the tape over, mostly with something fitting fed ahead of it, in the one step. */
    private static Step tapeStep() {
        int language = within(0, 1);
        int slot = slot();
        int[] n = {number(), number(), number(), number()};
        int kind = any(5);
        String fed = once(12) ? bytes() : kind < 2 ? patternText() : kind < 4 ? messageText(0) : bytes();
        String spoiled = once(8) && !fed.isEmpty() ? spoil(fed) : fed;
        int calls = (spoiled.length() + 7) / 8 + 1;
        Feed<LetterTables> into = (x, bytes, count) -> x.feed(bytes, count);
        Feed<Model> also = (m, bytes, count) -> m.feed(bytes, count);
        if (kind < 2) {
            return new Step("'" + spoiled + "' pattern()", x -> fed(x, into, spoiled) * 100L + x.pattern(),
                    m -> fed(m, also, spoiled) * 100L + m.pattern(), calls);
        }
        if (kind < 4) {
            return new Step("'" + spoiled + "' message(" + language + ", " + n[0] + ", " + n[1] + ", " + n[2] + ", "
                    + n[3] + ")", x -> fed(x, into, spoiled) * 1000L + x.message(language, n[0], n[1], n[2], n[3]),
                    m -> fed(m, also, spoiled) * 1000L + m.message(language, n[0], n[1], n[2], n[3]), calls);
        }
        if (once(5)) {
            long bytes = seed;
            int count = within(1, 8);
            return new Step("feed(" + bytes + ", " + count + ")", x -> x.feed(bytes, count), m -> m.feed(bytes, count));
        }
        return new Step("'" + spoiled + "' decode(" + slot + ")", x -> fed(x, into, spoiled) * 100L + x.decode(slot),
                m -> fed(m, also, spoiled) * 100L + m.decode(slot), calls);
    }

    private interface Feed<T> {
        int feed(T object, long bytes, int count);
    }

    private static <T> int fed(T object, Feed<T> feed, String text) {
        int size = 0;
        for (int i = 0; i < text.length(); i += 8) {
            int count = Math.min(8, text.length() - i);
            long bytes = 0;
            for (int k = count - 1; k >= 0; k--) {
                bytes = bytes << 8 | text.charAt(i + k);
            }
            try {
                size = feed.feed(object, bytes, count);
            } catch (IllegalStateException e) {
                return size;
            }
        }
        return size;
    }

    private static String spoil(String text) {
        int at = any(text.length());
        String signs = "{}|=:#0123ofmx<!*?.LMBDSC9 ";
        String put = once(3) ? "" : "" + signs.charAt(any(signs.length()));
        return text.substring(0, at) + put + text.substring(once(2) ? at : at + 1);
    }

    private static String bytes() {
        StringBuilder all = new StringBuilder();
        int count = once(6) ? any(60) : any(12);
        for (int i = 0; i < count; i++) {
            all.append((char) (once(4) ? 14 + any(2) : once(8) ? any(256) : 32 + any(once(2) ? 64 : 32)));
        }
        return all.toString();
    }

    private static String set() {
        String but = once(4) ? "!" : "";
        if (once(3)) {
            int l = letter();
            return but + "#" + (l < 0 || l > 99 ? "96" : l < 10 ? "0" + l : "" + l);
        }
        return but + ".LMBDSC".charAt(any(7));
    }

    private static String patternText() {
        StringBuilder all = new StringBuilder();
        int count = once(10) ? any(10) : any(6);
        for (int i = 0; i < count; i++) {
            all.append(once(4) ? "<" + set() : "").append(set()).append(once(3) ? "*" : once(3) ? "?" : "");
        }
        return all.toString();
    }

    private static String messageText(int depth) {
        StringBuilder all = new StringBuilder();
        int count = depth == 0 ? any(6) : any(3);
        for (int i = 0; i < count; i++) {
            int kind = any(3);
            if (kind == 0) {
                all.append((char) ('a' + any(26)));
            } else if (kind == 1) {
                all.append('{').append(any(4)).append('}');
            } else {
                all.append('{').append(any(4)).append(':');
                int cases = 1 + any(3);
                for (int k = 0; k < cases; k++) {
                    all.append(k == 0 ? "" : "|").append("ofmx#".charAt(any(5)));
                    if (all.charAt(all.length() - 1) == '#') {
                        all.append(any(4));
                    }
                    all.append('=').append(depth > 8 ? "" : messageText(depth + 1));
                }
                all.append('}');
            }
        }
        String deep = depth == 0 && once(6) ? "{1:x=".repeat(5 + any(3)) : "";
        return deep + all + "}".repeat(deep.length() / 5);
    }
}
