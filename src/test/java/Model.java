import java.util.ArrayList;
import java.util.Arrays;
import java.util.Collections;
import java.util.HashSet;
import java.util.List;
import java.util.Set;
import java.util.TreeSet;

/**
 * A second program for the same document, in the plainest form: each part is done as its words go, step by step, with
 * no regard for speed. It shares nothing with LetterTables but the constants.
 */
final class Model {
    private static final int NONE = -1;

    private record Plural(int number, int modulo, int from, int to, int other, int otherFrom, int otherTo) {
    }

    private record Rule(int pass, List<Integer> ahead, List<Integer> source, List<Integer> behind,
            List<Integer> target) {
    }

    private record Contraction(int one, int other, int[] weights) {
    }

    private static final class Tables {
        int[][] letters = new int[96][];
        int[][] splits = new int[96][];
        int[][] capitals = new int[96][];
        List<int[]> partners = new ArrayList<>();
        int[][][] weights = new int[2][96][3];
        List<List<Contraction>> contractions = List.of(new ArrayList<>(), new ArrayList<>());
        List<List<Plural>> plurals = List.of(new ArrayList<>(), new ArrayList<>());
        List<List<Integer>> words = new ArrayList<>();
        List<Rule> rules = new ArrayList<>();

        Tables() {
            for (int i = 0; i < 96; i++) {
                letters[i] = new int[] {0, LetterTables.NEUTRAL, LetterTables.OTHER, i};
            }
        }

        Tables copy() {
            Tables t = new Tables();
            t.letters = letters.clone();
            t.splits = splits.clone();
            t.capitals = capitals.clone();
            t.partners = new ArrayList<>(partners);
            for (int i = 0; i < 2; i++) {
                t.weights[i] = weights[i].clone();
                t.contractions.get(i).addAll(contractions.get(i));
                t.plurals.get(i).addAll(plurals.get(i));
            }
            t.words = new ArrayList<>(words);
            t.rules = new ArrayList<>(rules);
            return t;
        }

        int joins(int letter) {
            return letters[letter][0];
        }

        int direction(int letter) {
            return letters[letter][1];
        }

        int kind(int letter) {
            return letters[letter][2];
        }
    }

    private Tables t = new Tables();
    private final List<Tables> versions = new ArrayList<>();
    private final List<List<Integer>> texts = new ArrayList<>();
    private List<Integer> tape = new ArrayList<>();
    private List<Integer> out = new ArrayList<>();
    private List<Piece> pattern;

    Model() {
        for (int i = 0; i < 6; i++) {
            texts.add(new ArrayList<>());
        }
    }

    // ---- what is thrown

    private static void index(boolean isWrong) {
        if (isWrong) {
            throw new IndexOutOfBoundsException();
        }
    }

    private static void argument(boolean isWrong) {
        if (isWrong) {
            throw new IllegalArgumentException();
        }
    }

    private static void state(boolean isWrong) {
        if (isWrong) {
            throw new IllegalStateException();
        }
    }

    private static boolean out(int x, int least, int most) {
        return x < least || x > most;
    }

    private static void slots(int... slots) {
        for (int slot : slots) {
            index(out(slot, 0, 5));
        }
    }

    private static void letters(int... letters) {
        for (int letter : letters) {
            index(out(letter, 0, 95));
        }
    }

    private static void language(int language) {
        index(out(language, 0, 1));
    }

    // ---- the tape and the tables

    int feed(long bytes, int n) {
        argument(out(n, 1, 8));
        state(tape.size() + n > 160);
        long rest = bytes;
        for (int i = 0; i < n; i++) {
            tape.add((int) (rest & 255));
            rest >>= 8;
        }
        return tape.size();
    }

    void letter(int letter, int joins, int direction, int kind, int like) {
        letters(letter);
        argument(out(joins, 0, 9) || out(direction, 0, 10) || out(kind, 0, 6) || out(like, 0, 95));
        t.letters[letter] = new int[] {joins, direction, kind, like};
    }

    void split(int letter, int one, int other) {
        letters(letter);
        argument(out(one, -1, letter - 1) || out(other, -1, letter - 1));
        argument((one == NONE) != (other == NONE));
        t.splits[letter] = one == NONE ? null : new int[] {one, other};
    }

    void capital(int letter, int one, int other) {
        letters(letter);
        argument(out(one, -1, 95) || out(other, -1, 95));
        argument(one == NONE && other != NONE);
        t.capitals[letter] = one == NONE ? null : other == NONE ? new int[] {one} : new int[] {one, other};
    }

    void partners(int opening, int closing) {
        letters(opening, closing);
        state(opening == closing);
        for (int[] pair : t.partners) {
            state(pair[0] == opening || pair[1] == opening || pair[0] == closing || pair[1] == closing);
        }
        t.partners.add(new int[] {opening, closing});
    }

    void weigh(int language, int letter, int first, int second, int third) {
        language(language);
        letters(letter);
        argument(out(first, 0, 99) || out(second, 0, 9) || out(third, 0, 9));
        t.weights[language][letter] = new int[] {first, second, third};
    }

    int contract(int language, int one, int other, int first, int second, int third) {
        language(language);
        letters(one, other);
        argument(out(first, 0, 99) || out(second, 0, 9) || out(third, 0, 9));
        List<Contraction> all = t.contractions.get(language);
        Contraction told = new Contraction(one, other, new int[] {first, second, third});
        for (int i = 0; i < all.size(); i++) {
            if (all.get(i).one == one && all.get(i).other == other) {
                all.set(i, told);
                return all.size();
            }
        }
        state(all.size() == 6);
        all.add(told);
        return all.size();
    }

    int plural(int language, int number, int modulo, int from, int to, int other, int otherFrom, int otherTo) {
        language(language);
        argument(out(number, 0, 2) || out(modulo, 1, 100) || out(from, 0, 99) || out(to, from, 99));
        argument(out(other, 0, 100));
        if (other == 0) {
            argument(otherFrom != 0 || otherTo != 0);
        } else {
            argument(out(otherFrom, 0, 99) || out(otherTo, otherFrom, 99));
        }
        state(t.plurals.get(language).size() == 4);
        t.plurals.get(language).add(new Plural(number, modulo, from, to, other, otherFrom, otherTo));
        return t.plurals.get(language).size();
    }

    int addWord(int slot) {
        slots(slot);
        state(out(texts.get(slot).size(), 1, 8) || t.words.size() == 6);
        t.words.add(new ArrayList<>(texts.get(slot)));
        return t.words.size();
    }

    int addRule(int pass, int ahead, int source, int behind, int target) {
        slots(ahead, source, behind, target);
        argument(out(pass, 0, 1));
        state(texts.get(ahead).size() > 2 || texts.get(source).size() > 3 || texts.get(behind).size() > 2
                || texts.get(target).size() > 3 || texts.get(source).isEmpty() || t.rules.size() == 8);
        t.rules.add(new Rule(pass, new ArrayList<>(texts.get(ahead)), new ArrayList<>(texts.get(source)),
                new ArrayList<>(texts.get(behind)), new ArrayList<>(texts.get(target))));
        return t.rules.size();
    }

    int save() {
        state(versions.size() == 4);
        versions.add(t.copy());
        return versions.size() - 1;
    }

    void use(int version) {
        index(out(version, 0, versions.size() - 1));
        t = versions.get(version).copy();
    }

    // ---- texts

    int put(int slot, int letter) {
        slots(slot);
        letters(letter);
        state(texts.get(slot).size() == 40);
        texts.get(slot).add(letter);
        return texts.get(slot).size();
    }

    int clear(int slot) {
        slots(slot);
        int had = texts.get(slot).size();
        texts.get(slot).clear();
        return had;
    }

    int at(int slot, int place) {
        slots(slot);
        if (place == NONE) {
            return texts.get(slot).size();
        }
        index(out(place, 0, texts.get(slot).size() - 1));
        return texts.get(slot).get(place);
    }

    int form(int slot, int form, int target) {
        slots(slot, target);
        argument(out(form, 0, 3));
        List<Integer> text = texts.get(slot);
        List<Integer> made = form == 0 ? splitOf(text) : form == 1 ? joinedOf(text) : form == 2 ? foldedOf(text)
                : skeletonOf(text);
        state(made.size() > 40);
        texts.set(target, new ArrayList<>(made));
        return made.size();
    }

    private List<Integer> splitOf(List<Integer> text) {
        List<Integer> row = new ArrayList<>(text);
        boolean isChanged = true;
        while (isChanged) {
            isChanged = false;
            state(row.size() > 80);
            for (int i = 0; i < row.size() && !isChanged; i++) {
                int[] two = t.splits[row.get(i)];
                if (two != null) {
                    row.set(i, two[0]);
                    row.add(i + 1, two[1]);
                    isChanged = true;
                }
            }
        }
        isChanged = true;
        while (isChanged) {
            isChanged = false;
            for (int i = row.size() - 2; i >= 0; i--) {
                int joins = t.joins(row.get(i + 1));
                if (joins > 0 && joins < t.joins(row.get(i))) {
                    Collections.swap(row, i, i + 1);
                    isChanged = true;
                }
            }
        }
        return row;
    }

    private List<Integer> joinedOf(List<Integer> text) {
        List<Integer> row = splitOf(text);
        int i = 1;
        while (i < row.size()) {
            int it = row.get(i);
            int s = i - 1;
            while (s >= 0 && t.joins(row.get(s)) != 0) {
                s--;
            }
            int becomes = NONE;
            if (s >= 0 && isAllBetweenLess(row, s, i)) {
                for (int letter = 95; letter >= 0; letter--) {
                    int[] two = t.splits[letter];
                    if (two != null && two[0] == row.get(s) && two[1] == it) {
                        becomes = letter;
                    }
                }
            }
            if (becomes == NONE) {
                i++;
            } else {
                row.set(s, becomes);
                row.remove(i);
            }
        }
        return row;
    }

    private boolean isAllBetweenLess(List<Integer> row, int s, int i) {
        for (int k = s + 1; k < i; k++) {
            int joins = t.joins(row.get(k));
            if (joins == 0 || joins >= t.joins(row.get(i))) {
                return false;
            }
        }
        return true;
    }

    private List<Integer> foldedOf(List<Integer> text) {
        List<Integer> row = new ArrayList<>();
        for (int letter : text) {
            if (t.capitals[letter] == null) {
                row.add(letter);
            } else {
                for (int capital : t.capitals[letter]) {
                    row.add(capital);
                }
            }
        }
        row = splitOf(row);
        row.removeIf(letter -> t.joins(letter) > 0);
        return row;
    }

    private List<Integer> skeletonOf(List<Integer> text) {
        List<Integer> row = splitOf(text);
        row.replaceAll(letter -> t.letters[letter][3]);
        return splitOf(row);
    }

    boolean looksLike(int slot, int other) {
        slots(slot, other);
        return skeletonOf(texts.get(slot)).equals(skeletonOf(texts.get(other)));
    }

    // ---- directions: frames as lists of places, and what is within one found by going into it

    private static boolean isIsolate(int direction) {
        return direction >= LetterTables.ISOLATE_LEFT && direction <= LetterTables.ISOLATE_FIRST;
    }

    private int direction(List<Integer> text, int place) {
        return t.direction(text.get(place));
    }

    /** For each ISOLATE the place of what closes it, or the size; for what closes one the ISOLATE; NONE for others. */
    private int[] brackets(List<Integer> text) {
        int[] brackets = new int[text.size()];
        Arrays.fill(brackets, NONE);
        List<Integer> open = new ArrayList<>();
        for (int i = 0; i < text.size(); i++) {
            if (isIsolate(direction(text, i))) {
                open.add(i);
                brackets[i] = text.size();
            } else if (direction(text, i) == LetterTables.POP_ISOLATE && !open.isEmpty()) {
                int last = open.remove(open.size() - 1);
                brackets[last] = i;
                brackets[i] = last;
            }
        }
        return brackets;
    }

    private int baseOf(List<Integer> text) {
        int[] brackets = brackets(text);
        for (int i = 0; i < text.size(); i++) {
            int direction = direction(text, i);
            if (isIsolate(direction)) {
                i = brackets[i];
            } else if (direction == LetterTables.LEFT || direction == LetterTables.RIGHT) {
                return direction == LetterTables.RIGHT ? 1 : 0;
            }
        }
        return 0;
    }

    private int[] levelsOf(List<Integer> text, int told) {
        int[] levels = new int[text.size()];
        frame(text, brackets(text), 0, text.size(), told == NONE ? baseOf(text) : told, false, levels);
        return levels;
    }

    private static int greater(int level, boolean isRight) {
        for (int next = level + 1; next <= 9; next++) {
            if (next % 2 == (isRight ? 1 : 0)) {
                return next;
            }
        }
        return level;
    }

    /** Finds a frame that begins at a place and ends at the latest at a limit; answers where one goes on behind it. */
    private int frame(List<Integer> text, int[] brackets, int from, int limit, int level, boolean isEmbed,
            int[] levels) {
        List<Integer> places = new ArrayList<>();
        int i = from;
        while (i < limit) {
            int direction = direction(text, i);
            places.add(i);
            i++;
            if (direction == LetterTables.POP && isEmbed) {
                break;
            }
            if (direction == LetterTables.EMBED_LEFT || direction == LetterTables.EMBED_RIGHT) {
                int within = greater(level, direction == LetterTables.EMBED_RIGHT);
                i = frame(text, brackets, i, limit, within, true, levels);
            } else if (isIsolate(direction)) {
                int end = brackets[i - 1];
                boolean isRight = direction == LetterTables.ISOLATE_RIGHT
                        || direction == LetterTables.ISOLATE_FIRST && baseOf(text.subList(i, end)) == 1;
                frame(text, brackets, i, end, greater(level, isRight), false, levels);
                i = end;
            }
        }
        settle(text, places, level, levels);
        return i;
    }

    private void settle(List<Integer> text, List<Integer> places, int level, int[] levels) {
        char b = level % 2 == 0 ? 'l' : 'r';
        StringBuilder ways = new StringBuilder();
        for (int place : places) {
            int direction = direction(text, place);
            char way = direction == LetterTables.LEFT ? 'l' : direction == LetterTables.RIGHT ? 'r' : '.';
            if (direction == LetterTables.NUMBER) {
                String strong = ahead(text, places, ways.length());
                way = strong.endsWith("l") || strong.isEmpty() && b == 'l' ? 'l' : 'n';
            }
            ways.append(way);
        }
        settlePartners(text, places, b, ways);
        String before = ways.toString().replace('n', 'r');
        for (int i = 0; i < ways.length(); i++) {
            if (ways.charAt(i) == '.') {
                String left = (b + before.substring(0, i)).replace(".", "");
                String right = (before.substring(i + 1) + b).replace(".", "");
                char one = left.charAt(left.length() - 1);
                ways.setCharAt(i, one == right.charAt(0) ? one : b);
            }
        }
        for (int i = 0; i < ways.length(); i++) {
            char way = ways.charAt(i);
            int more = b == 'l' ? (way == 'r' ? 1 : way == 'n' ? 2 : 0) : way == 'r' ? 0 : 1;
            levels[places.get(i)] = level + more;
        }
    }

    /** The letters that are LEFT or RIGHT among the first ones of a frame. */
    private String ahead(List<Integer> text, List<Integer> places, int count) {
        StringBuilder strong = new StringBuilder();
        for (int place : places.subList(0, count)) {
            int direction = direction(text, place);
            strong.append(direction == LetterTables.LEFT ? "l" : direction == LetterTables.RIGHT ? "r" : "");
        }
        return strong.toString();
    }

    private void settlePartners(List<Integer> text, List<Integer> places, char b, StringBuilder ways) {
        List<int[]> pairs = new ArrayList<>();
        List<Integer> open = new ArrayList<>();
        for (int i = 0; i < places.size(); i++) {
            int letter = text.get(places.get(i));
            if (t.direction(letter) != LetterTables.NEUTRAL) {
                continue;
            }
            for (int[] pair : t.partners) {
                if (pair[0] == letter) {
                    open.add(i);
                }
                if (pair[1] == letter) {
                    int k = open.size() - 1;
                    while (k >= 0 && text.get(places.get(open.get(k))) != pair[0]) {
                        k--;
                    }
                    if (k >= 0) {
                        pairs.add(new int[] {open.get(k), i});
                        open = new ArrayList<>(open.subList(0, k));
                    }
                }
            }
        }
        pairs.sort((one, other) -> one[0] - other[0]);
        char other = b == 'l' ? 'r' : 'l';
        for (int[] pair : pairs) {
            String between = ways.substring(pair[0] + 1, pair[1]).replace('n', 'r');
            String before = ways.substring(0, pair[0]).replace('n', 'r').replace(".", "");
            char way = '.';
            if (between.indexOf(b) >= 0) {
                way = b;
            } else if (between.indexOf(other) >= 0) {
                way = before.endsWith("" + other) ? other : b;
            }
            ways.setCharAt(pair[0], way);
            ways.setCharAt(pair[1], way);
        }
    }

    int base(int slot) {
        slots(slot);
        return baseOf(texts.get(slot));
    }

    int level(int slot, int place, int base) {
        slots(slot);
        index(out(place, 0, texts.get(slot).size() - 1));
        argument(out(base, -1, 1));
        return levelsOf(texts.get(slot), base)[place];
    }

    private List<Integer> screenOf(List<Integer> text, int base) {
        int[] levels = levelsOf(text, base);
        List<Integer> screen = new ArrayList<>();
        for (int i = 0; i < text.size(); i++) {
            screen.add(i);
        }
        for (int level = 10; level > 0; level--) {
            int i = 0;
            while (i < screen.size()) {
                int end = i;
                while (end < screen.size() && levels[screen.get(end)] >= level) {
                    end++;
                }
                Collections.reverse(screen.subList(i, end));
                i = end + 1;
            }
        }
        return screen;
    }

    int shown(int slot, int place, int base) {
        slots(slot);
        index(out(place, 0, texts.get(slot).size() - 1));
        argument(out(base, -1, 1));
        return screenOf(texts.get(slot), base).get(place);
    }

    int bySight(int slot, int place, boolean isRight) {
        slots(slot);
        index(out(place, 0, texts.get(slot).size() - 1));
        List<Integer> screen = screenOf(texts.get(slot), NONE);
        if (!isRight) {
            Collections.reverse(screen);
        }
        Set<Integer> begins = begins(texts.get(slot));
        for (int found : screen.subList(screen.indexOf(place) + 1, screen.size())) {
            if (begins.contains(found)) {
                return found;
            }
        }
        return NONE;
    }

    // ---- breaks

    private Set<Integer> begins(List<Integer> text) {
        Set<Integer> begins = new TreeSet<>();
        for (int i = 0; i < text.size(); i++) {
            boolean isMark = t.kind(text.get(i)) == LetterTables.MARK;
            if (i == 0 || !isMark && t.kind(text.get(i - 1)) != LetterTables.JOINER) {
                begins.add(i);
            }
        }
        return begins;
    }

    private List<List<Integer>> clusters(List<Integer> text) {
        List<List<Integer>> clusters = new ArrayList<>();
        Set<Integer> begins = begins(text);
        for (int i = 0; i < text.size(); i++) {
            if (begins.contains(i)) {
                clusters.add(new ArrayList<>());
            }
            clusters.get(clusters.size() - 1).add(text.get(i));
        }
        return clusters;
    }

    private int kindOf(List<Integer> cluster) {
        return t.kind(cluster.get(0));
    }

    /** How many clusters the word has that begins with a cluster of a row of SEAMLESS ones. */
    private int wordAt(List<List<Integer>> row) {
        int longest = 1;
        List<Integer> letters = new ArrayList<>();
        for (int count = 1; count <= row.size(); count++) {
            letters.addAll(row.get(count - 1));
            if (t.words.contains(letters)) {
                longest = count;
            }
        }
        return longest;
    }

    long breaks(int slot, int what) {
        slots(slot);
        argument(out(what, 0, 2));
        List<List<Integer>> clusters = clusters(texts.get(slot));
        Set<Integer> ends = new HashSet<>();
        int c = 0;
        while (c < clusters.size()) {
            int end = c;
            while (end < clusters.size() && kindOf(clusters.get(end)) == LetterTables.SEAMLESS) {
                end++;
            }
            while (c < end) {
                c += wordAt(clusters.subList(c, end));
                ends.add(c);
            }
            c = end + 1;
        }
        long bits = 0;
        int place = 0;
        for (int i = 1; i < clusters.size(); i++) {
            place += clusters.get(i - 1).size();
            int one = kindOf(clusters.get(i - 1));
            int other = kindOf(clusters.get(i));
            boolean isSeamless = one == LetterTables.SEAMLESS && other == LetterTables.SEAMLESS;
            List<Integer> wordly = List.of(LetterTables.LETTER, LetterTables.DIGIT);
            boolean isWord = !(wordly.contains(one) && wordly.contains(other))
                    && !(one == LetterTables.BLANK && other == LetterTables.BLANK)
                    && !(isSeamless && !ends.contains(i));
            boolean isLine = isWord && (one == LetterTables.BLANK && other != LetterTables.BLANK || isSeamless);
            bits += what == 0 || what == 1 && isWord || what == 2 && isLine ? 1L << place : 0;
        }
        return bits;
    }

    int bySense(int slot, int place, boolean isOn) {
        slots(slot);
        int size = texts.get(slot).size();
        index(out(place, 0, size));
        TreeSet<Integer> places = new TreeSet<>(begins(texts.get(slot)));
        places.add(size);
        Integer found = isOn ? places.higher(place) : places.lower(place);
        return found == null ? place : found;
    }

    // ---- orders, searches

    private List<Integer> keyOf(int language, List<Integer> text) {
        List<Integer> row = splitOf(text);
        List<int[]> weights = new ArrayList<>();
        while (!row.isEmpty()) {
            int[] found = null;
            for (Contraction one : t.contractions.get(language)) {
                if (row.size() > 1 && one.one == row.get(0) && one.other == row.get(1)) {
                    found = one.weights;
                }
            }
            weights.add(found == null ? t.weights[language][row.get(0)] : found);
            row = row.subList(found == null ? 1 : 2, row.size());
        }
        List<Integer> key = new ArrayList<>();
        for (int rank = 0; rank < 3; rank++) {
            if (rank > 0) {
                key.add(0);
            }
            for (int[] one : weights) {
                if (one[rank] > 0) {
                    key.add(one[rank]);
                }
            }
        }
        return key;
    }

    int compare(int language, int slot, int other) {
        language(language);
        slots(slot, other);
        List<Integer> one = keyOf(language, texts.get(slot));
        List<Integer> two = keyOf(language, texts.get(other));
        for (int i = 0; i < one.size() && i < two.size(); i++) {
            if (!one.get(i).equals(two.get(i))) {
                return one.get(i) < two.get(i) ? -1 : 1;
            }
        }
        return Integer.compare(one.size(), two.size());
    }

    int key(int language, int slot, int place) {
        language(language);
        slots(slot);
        List<Integer> key = keyOf(language, texts.get(slot));
        if (place == NONE) {
            return key.size();
        }
        index(out(place, 0, key.size() - 1));
        return key.get(place);
    }

    int find(int slot, int wanted, int from) {
        slots(slot, wanted);
        argument(out(from, 0, 40));
        List<Integer> text = texts.get(slot);
        foldedOf(text);
        List<Integer> folded = foldedOf(texts.get(wanted));
        if (folded.isEmpty()) {
            return NONE;
        }
        Set<Integer> begins = begins(text);
        for (int place = from; place < text.size(); place++) {
            for (int end = place + 1; end <= text.size() && begins.contains(place); end++) {
                boolean isEnd = end == text.size() || begins.contains(end);
                if (isEnd && foldedOf(text.subList(place, end)).equals(folded)) {
                    return 100 * place + end;
                }
            }
        }
        return NONE;
    }

    /** Sets as they stand in the pattern: "!" or not, and a sign with its digits. */
    private record Piece(String look, String set, String often) {
    }

    private static final java.util.regex.Pattern PIECE = java.util.regex.Pattern
            .compile("(?:<(!?(?:[.LMBDSC]|#[0-8][0-9]|#9[0-5])))?(!?(?:[.LMBDSC]|#[0-8][0-9]|#9[0-5]))([*?]?)");

    int pattern() {
        StringBuilder signs = new StringBuilder();
        for (int one : tape) {
            signs.append((char) one);
        }
        tape = new ArrayList<>();
        List<Piece> pieces = new ArrayList<>();
        java.util.regex.Matcher m = PIECE.matcher(signs);
        int end = 0;
        while (end < signs.length()) {
            state(!m.find(end) || m.start() != end);
            pieces.add(new Piece(m.group(1), m.group(2), m.group(3)));
            end = m.end();
        }
        state(pieces.size() > 8);
        pattern = pieces;
        return pieces.size();
    }

    private boolean isIn(String set, int letter) {
        if (set.startsWith("!")) {
            return !isIn(set.substring(1), letter);
        }
        switch (set.charAt(0)) {
            case '.':
                return true;
            case '#':
                return letter == Integer.parseInt(set.substring(1));
            case 'C':
                for (int some = 0; some < 96; some++) {
                    for (int capital : t.capitals[some] == null ? new int[0] : t.capitals[some]) {
                        if (some != letter && capital == letter) {
                            return true;
                        }
                    }
                }
                return false;
            default:
                return t.kind(letter) == new int[] {1, 2, 3, 4, 6}["LMBDS".indexOf(set.charAt(0))];
        }
    }

    /** All places where the first pieces can end. */
    private Set<Integer> ends(List<Integer> text, int place, int pieces) {
        if (pieces == 0) {
            return new TreeSet<>(Set.of(place));
        }
        Piece last = pattern.get(pieces - 1);
        Set<Integer> ends = new TreeSet<>();
        for (int from : ends(text, place, pieces - 1)) {
            int most = last.often.equals("*") ? 40 : 1;
            if (!last.often.isEmpty()) {
                ends.add(from);
            }
            int at = from;
            while (most > 0 && at < text.size() && isIn(last.set, text.get(at))
                    && (last.look == null || at > 0 && isIn(last.look, text.get(at - 1)))) {
                at++;
                most--;
                ends.add(at);
            }
        }
        return ends;
    }

    int match(int slot, int place) {
        slots(slot);
        index(out(place, 0, texts.get(slot).size()));
        state(pattern == null);
        Set<Integer> ends = ends(texts.get(slot), place, pattern.size());
        return ends.isEmpty() ? NONE : Collections.max(ends);
    }

    // ---- transliteration, messages, encoding

    private static boolean stands(List<Integer> part, List<Integer> text, int place) {
        return place >= 0 && place + part.size() <= text.size()
                && text.subList(place, place + part.size()).equals(part);
    }

    private List<Integer> passed(int pass, boolean isBack, List<Integer> text) {
        List<Integer> done = new ArrayList<>();
        int i = 0;
        while (i < text.size()) {
            Rule fitting = null;
            List<Integer> source = null;
            for (Rule rule : t.rules) {
                source = isBack ? rule.target : rule.source;
                if (rule.pass == pass && !source.isEmpty() && stands(source, text, i)
                        && stands(rule.ahead, done, done.size() - rule.ahead.size())
                        && stands(rule.behind, text, i + source.size())) {
                    fitting = rule;
                    break;
                }
            }
            if (fitting == null) {
                done.add(text.get(i));
                i++;
            } else {
                done.addAll(isBack ? fitting.source : fitting.target);
                i += source.size();
            }
        }
        state(done.size() > 40);
        return done;
    }

    int transliterate(int slot, int target, boolean isBack) {
        slots(slot, target);
        List<Integer> done = texts.get(slot);
        for (int pass : isBack ? new int[] {1, 0} : new int[] {0, 1}) {
            done = passed(pass, isBack, done);
        }
        texts.set(target, new ArrayList<>(done));
        return done.size();
    }

    private int classFor(int language, int number) {
        for (Plural rule : t.plurals.get(language)) {
            boolean isIn = number % rule.modulo >= rule.from && number % rule.modulo <= rule.to;
            boolean isOther = rule.other > 0 && number % rule.other >= rule.otherFrom
                    && number % rule.other <= rule.otherTo;
            if (isIn && !isOther) {
                return rule.number;
            }
        }
        return NONE;
    }

    int classOf(int language, int number) {
        language(language);
        argument(out(number, 0, 999999));
        return classFor(language, number);
    }

    /** The message from its inside out: a choice that has no other one in it is put in place until none is left. */
    int message(int language, int one, int two, int three, int four) {
        language(language);
        int[] numbers = {one, two, three, four};
        for (int number : numbers) {
            argument(out(number, 0, 999999));
        }
        StringBuilder signs = new StringBuilder();
        for (int sign : tape) {
            signs.append((char) sign);
        }
        tape = new ArrayList<>();
        String text = rendered(signs.toString(), language, numbers);
        out = new ArrayList<>();
        for (char sign : text.substring(0, Math.min(200, text.length())).toCharArray()) {
            out.add((int) sign);
        }
        return out.size();
    }

    private static final java.util.regex.Pattern NUMBER = java.util.regex.Pattern.compile("\\{([0-3])\\}");
    private static final java.util.regex.Pattern CHOICE = java.util.regex.Pattern
            .compile("\\{([0-3]):((?:[ofmx]|#[0-3])=[^{|}]*(?:\\|(?:[ofmx]|#[0-3])=[^{|}]*)*)\\}");

    /** What has been put in place of a part: a sign beyond the bytes stands for it, so that it is no sign of its own. */
    private record Part(String text, int depth) {
    }

    private String rendered(String signs, int language, int[] numbers) {
        for (char sign : signs.toCharArray()) {
            state(sign < 32 || sign > 126);
        }
        List<Part> parts = new ArrayList<>();
        String text = signs;
        java.util.regex.Matcher m = NUMBER.matcher(text);
        while (m.find()) {
            parts.add(new Part("" + numbers[m.group(1).charAt(0) - '0'], 0));
            text = text.substring(0, m.start()) + (char) (255 + parts.size()) + text.substring(m.end());
            m = NUMBER.matcher(text);
        }
        m = CHOICE.matcher(text);
        while (m.find()) {
            int depth = 1;
            for (char sign : m.group(2).toCharArray()) {
                depth = Math.max(depth, sign > 255 ? parts.get(sign - 256).depth + 1 : 0);
            }
            state(depth > 6);
            parts.add(new Part(chosen(m.group(2), numbers[m.group(1).charAt(0) - '0'], language), depth));
            text = text.substring(0, m.start()) + (char) (255 + parts.size()) + text.substring(m.end());
            m = CHOICE.matcher(text);
        }
        state(text.indexOf('{') >= 0 || text.indexOf('|') >= 0 || text.indexOf('}') >= 0);
        for (int i = parts.size() - 1; i >= 0; i--) {
            text = text.replace("" + (char) (256 + i), parts.get(i).text);
        }
        return text;
    }

    private String chosen(String cases, int number, int language) {
        for (String one : cases.split("\\|", -1)) {
            char key = one.charAt(0);
            int itsClass = classFor(language, number);
            if (key == 'x' || key == '#' && number == one.charAt(1) - '0' || "ofm".indexOf(key) >= 0
                    && "ofm".indexOf(key) == itsClass) {
                return one.substring(one.indexOf('=') + 1);
            }
        }
        return "";
    }

    long word(int i) {
        long word = 0;
        for (int k = 0; k < 8; k++) {
            long place = 8L * i + k;
            if (place >= 0 && place < out.size()) {
                word |= (long) out.get((int) place) << 8 * k;
            }
        }
        return word;
    }

    int encode(int slot) {
        slots(slot);
        out = new ArrayList<>();
        boolean isOne = false;
        for (int letter : texts.get(slot)) {
            if (isOne && letter < 64) {
                out.add(15);
            }
            if (!isOne && letter > 63) {
                out.add(14);
            }
            isOne = letter > 63;
            out.add(isOne ? letter - 64 + 32 : letter + 32);
        }
        if (isOne) {
            out.add(15);
        }
        return out.size();
    }

    int decode(int slot) {
        slots(slot);
        List<Integer> text = new ArrayList<>();
        boolean isOne = false;
        int errors = 0;
        for (int code : tape) {
            if (code == 14) {
                isOne = true;
            } else if (code == 15) {
                isOne = false;
            } else if (out(code, 32, isOne ? 63 : 95)) {
                errors++;
                text.add(0);
            } else {
                text.add(isOne ? code + 32 : code - 32);
            }
        }
        tape = new ArrayList<>();
        state(text.size() > 40);
        texts.set(slot, text);
        return errors + (isOne ? 1 : 0);
    }
}
