public final class LetterTables {
    public static final int NONE = -1;
    public static final int LEFT = 0, RIGHT = 1, NUMBER = 2, NEUTRAL = 3, EMBED_LEFT = 4, EMBED_RIGHT = 5, POP = 6,
            ISOLATE_LEFT = 7, ISOLATE_RIGHT = 8, ISOLATE_FIRST = 9, POP_ISOLATE = 10;
    public static final int OTHER = 0, LETTER = 1, MARK = 2, BLANK = 3, DIGIT = 4, JOINER = 5, SEAMLESS = 6;
    public static final int ONE = 0, FEW = 1, MANY = 2;

    private static final int LETTERS = 96;
    private static final int SLOTS = 6;
    private static final int LANGUAGES = 2;
    private static final int VERSIONS = 4;
    private static final int TEXT_ROOM = 40;
    private static final int FORM_ROOM = 80;
    private static final int KEY_ROOM = 3 * FORM_ROOM + 2;
    private static final int TAPE_ROOM = 160;
    private static final int OUT_ROOM = 200;
    private static final int CONTRACTIONS = 6;
    private static final int UNITS = LETTERS + CONTRACTIONS;
    private static final int PLURALS = 4;
    private static final int WORDS = 6;
    private static final int WORD_ROOM = 8;
    private static final int RULES = 8;
    private static final int CONTEXT_ROOM = 2;
    private static final int SOURCE_ROOM = 3;
    private static final int PATTERN_SETS = 8;
    private static final int CHOICES = 6;
    private static final int NUMBERS = 4;
    private static final int GREATEST_NUMBER = 999999;
    private static final int GREATEST_LEVEL = 9;
    private static final int TO_STATE_ONE = 14;
    private static final int TO_STATE_ZERO = 15;
    private static final int FIRST_BYTE = 32;
    private static final int STATE_ZERO_LETTERS = 64;

    private final Tables tables;
    private final Tables[] versions;
    private int versionCount;
    private final Row[] texts;
    private final Row tape;
    private final Row out;
    private final Forms forms;
    private final Levels levels;
    private final Borders borders;
    private Pattern taken;
    private Pattern draft;
    private boolean hasPattern;
    private final MessageReader reader;
    // Rows for what comes of a call on the way, made once so that no call makes any.
    private final Row wide;
    private final Row wideOther;
    private final Row units;
    private final Row unitsOther;
    private final Row keyRow;
    private final Row passed;
    private final Row passedTwice;

    public LetterTables() {
        tables = new Tables();
        versions = new Tables[VERSIONS];
        for (int i = 0; i < versions.length; i++) {
            versions[i] = new Tables();
        }
        texts = new Row[SLOTS];
        for (int i = 0; i < texts.length; i++) {
            texts[i] = new Row(TEXT_ROOM);
        }
        tape = new Row(TAPE_ROOM);
        out = new Row(OUT_ROOM);
        forms = new Forms(tables);
        levels = new Levels(tables);
        borders = new Borders(tables);
        taken = new Pattern();
        draft = new Pattern();
        reader = new MessageReader(tape);
        wide = new Row(FORM_ROOM);
        wideOther = new Row(FORM_ROOM);
        units = new Row(FORM_ROOM);
        unitsOther = new Row(FORM_ROOM);
        keyRow = new Row(KEY_ROOM);
        passed = new Row(TEXT_ROOM);
        passedTwice = new Row(TEXT_ROOM);
    }

    public int feed(long bytes, int n) throws IllegalArgumentException, IllegalStateException {
        checkArgument(isWithin(n, 1, 8));
        if (tape.size() + n > TAPE_ROOM) {
            throw new IllegalStateException("the tape is full");
        }
        for (int i = 0; i < n; i++) {
            tape.add((int) (bytes >>> 8 * i & 255));
        }
        return tape.size();
    }

    // ---- tables

    public void letter(int letter, int joins, int direction, int kind, int like)
            throws IndexOutOfBoundsException, IllegalArgumentException {
        checkLetter(letter);
        checkArgument(isWithin(joins, 0, 9) && isWithin(direction, LEFT, POP_ISOLATE)
                && isWithin(kind, OTHER, SEAMLESS) && isLetter(like));
        tables.tell(letter, joins, direction, kind, like);
    }

    public void split(int letter, int one, int other) throws IndexOutOfBoundsException, IllegalArgumentException {
        checkLetter(letter);
        boolean isNeither = one == NONE && other == NONE;
        checkArgument(isNeither || isWithin(one, 0, letter - 1) && isWithin(other, 0, letter - 1));
        tables.tellSplit(letter, one, other);
    }

    public void capital(int letter, int one, int other) throws IndexOutOfBoundsException, IllegalArgumentException {
        checkLetter(letter);
        boolean isNeither = one == NONE && other == NONE;
        checkArgument(isNeither || isLetter(one) && (other == NONE || isLetter(other)));
        tables.tellCapital(letter, one, other);
    }

    public void partners(int opening, int closing) throws IndexOutOfBoundsException, IllegalStateException {
        checkLetter(opening);
        checkLetter(closing);
        if (opening == closing || tables.partnerOf(opening) != NONE || tables.partnerOf(closing) != NONE) {
            throw new IllegalStateException("these can't become partners");
        }
        tables.tellPartners(opening, closing);
    }

    public void weigh(int language, int letter, int first, int second, int third)
            throws IndexOutOfBoundsException, IllegalArgumentException {
        Language told = languageOf(language);
        checkLetter(letter);
        checkWeights(first, second, third);
        told.weighUnit(letter, first, second, third);
    }

    public int contract(int language, int one, int other, int first, int second, int third)
            throws IndexOutOfBoundsException, IllegalArgumentException, IllegalStateException {
        Language told = languageOf(language);
        checkLetter(one);
        checkLetter(other);
        checkWeights(first, second, third);
        int unit = told.contractionOf(one, other);
        if (unit == NONE) {
            unit = told.addContraction(one, other);
        }
        if (unit == NONE) {
            throw new IllegalStateException("there are 6 contractions");
        }
        told.weighUnit(unit, first, second, third);
        return told.contractionCount();
    }

    public int plural(int language, int number, int modulo, int from, int to, int other, int otherFrom, int otherTo)
            throws IndexOutOfBoundsException, IllegalArgumentException, IllegalStateException {
        Language told = languageOf(language);
        checkArgument(isWithin(number, ONE, MANY) && isWithin(modulo, 1, 100) && isRange(from, to));
        boolean isWithoutOther = other == 0 && otherFrom == 0 && otherTo == 0;
        checkArgument(isWithoutOther || isWithin(other, 1, 100) && isRange(otherFrom, otherTo));
        PluralRule rule = told.nextPlural();
        if (rule == null) {
            throw new IllegalStateException("there are 4 plural rules");
        }
        rule.tell(number, modulo, from, to, other, otherFrom, otherTo);
        return told.countPlural();
    }

    public int addWord(int slot) throws IndexOutOfBoundsException, IllegalStateException {
        Row text = textOf(slot);
        if (!isWithin(text.size(), 1, WORD_ROOM) || !tables.takeWord(text)) {
            throw new IllegalStateException("no word, or there are 6");
        }
        return tables.wordCount();
    }

    public int addRule(int pass, int ahead, int source, int behind, int target)
            throws IndexOutOfBoundsException, IllegalArgumentException, IllegalStateException {
        Row aheadText = textOf(ahead);
        Row sourceText = textOf(source);
        Row behindText = textOf(behind);
        Row targetText = textOf(target);
        checkArgument(isWithin(pass, 0, 1));
        boolean isShort = aheadText.size() <= CONTEXT_ROOM && behindText.size() <= CONTEXT_ROOM
                && isWithin(sourceText.size(), 1, SOURCE_ROOM) && targetText.size() <= SOURCE_ROOM;
        Rule rule = tables.nextRule();
        if (!isShort || rule == null) {
            throw new IllegalStateException("no rule, or there are 8");
        }
        rule.tell(pass, aheadText, sourceText, behindText, targetText);
        return tables.countRule();
    }

    public int save() throws IllegalStateException {
        if (versionCount < 0 || versionCount >= versions.length) {
            throw new IllegalStateException("there are 4 versions");
        }
        versions[versionCount].copyFrom(tables);
        versionCount++;
        return versionCount - 1;
    }

    public void use(int version) throws IndexOutOfBoundsException {
        if (version < 0 || version >= versionCount || version >= versions.length) {
            throw new IndexOutOfBoundsException("no such version");
        }
        tables.copyFrom(versions[version]);
    }

    // ---- texts

    public int put(int slot, int letter) throws IndexOutOfBoundsException, IllegalStateException {
        Row text = textOf(slot);
        checkLetter(letter);
        if (!text.add(letter)) {
            throw new IllegalStateException("the text has 40 letters");
        }
        return text.size();
    }

    public int clear(int slot) throws IndexOutOfBoundsException {
        Row text = textOf(slot);
        int had = text.size();
        text.cutTo(0);
        return had;
    }

    public int at(int slot, int place) throws IndexOutOfBoundsException {
        Row text = textOf(slot);
        if (place == NONE) {
            return text.size();
        }
        checkPlace(place, text.size());
        return text.get(place);
    }

    public int form(int slot, int form, int target)
            throws IndexOutOfBoundsException, IllegalArgumentException, IllegalStateException {
        Row text = textOf(slot);
        Row into = textOf(target);
        checkArgument(isWithin(form, 0, 3));
        checkForm(forms.formInto(text, form, wide) && wide.size() <= TEXT_ROOM);
        into.takeOver(wide);
        return into.size();
    }

    public boolean looksLike(int slot, int other) throws IndexOutOfBoundsException, IllegalStateException {
        Row text = textOf(slot);
        Row otherText = textOf(other);
        checkForm(forms.skeletonInto(text, wide) && forms.skeletonInto(otherText, wideOther));
        return wide.isLike(wideOther);
    }

    // ---- directions

    public int base(int slot) throws IndexOutOfBoundsException {
        return levels.baseFrom(textOf(slot), 0, false);
    }

    public int level(int slot, int place, int base) throws IndexOutOfBoundsException, IllegalArgumentException {
        Row text = textOf(slot);
        checkPlace(place, text.size());
        checkArgument(isWithin(base, NONE, 1));
        levels.lookAt(text, base);
        return levels.levelAt(place);
    }

    public int shown(int slot, int place, int base) throws IndexOutOfBoundsException, IllegalArgumentException {
        Row text = textOf(slot);
        checkPlace(place, text.size());
        checkArgument(isWithin(base, NONE, 1));
        levels.lookAt(text, base);
        return levels.screen().get(place);
    }

    public int bySight(int slot, int place, boolean isRight) throws IndexOutOfBoundsException {
        Row text = textOf(slot);
        checkPlace(place, text.size());
        levels.lookAt(text, NONE);
        Row screen = levels.screen();
        long clusters = borders.clusterBreaks(text);
        int step = isRight ? 1 : -1;
        for (int i = screen.placeOf(place) + step; i >= 0 && i < screen.size(); i += step) {
            int found = screen.get(i);
            if (Borders.isBeginning(clusters, found)) {
                return found;
            }
        }
        return NONE;
    }

    // ---- breaks

    public long breaks(int slot, int what) throws IndexOutOfBoundsException, IllegalArgumentException {
        Row text = textOf(slot);
        checkArgument(isWithin(what, 0, 2));
        if (what == 0) {
            return borders.clusterBreaks(text);
        }
        return borders.wordBreaks(text, what == 2);
    }

    public int bySense(int slot, int place, boolean isOn) throws IndexOutOfBoundsException {
        Row text = textOf(slot);
        int size = text.size();
        checkPlace(place, size + 1);
        long clusters = borders.clusterBreaks(text);
        int step = isOn ? 1 : -1;
        for (int i = place + step; i >= 0 && i <= size; i += step) {
            if (i == size || Borders.isBeginning(clusters, i)) {
                return i;
            }
        }
        return place;
    }

    // ---- orders, searches

    public int compare(int language, int slot, int other) throws IndexOutOfBoundsException, IllegalStateException {
        Language told = languageOf(language);
        Row text = textOf(slot);
        Row otherText = textOf(other);
        checkForm(forms.splitInto(text, wide) && forms.splitInto(otherText, wideOther));
        told.unitsInto(wide, units);
        told.unitsInto(wideOther, unitsOther);
        int order = 0;
        for (int rank = 0; rank < 3 && order == 0; rank++) {
            order = told.orderOf(units, unitsOther, rank);
        }
        return order;
    }

    public int key(int language, int slot, int place) throws IndexOutOfBoundsException, IllegalStateException {
        Language told = languageOf(language);
        Row text = textOf(slot);
        checkForm(forms.splitInto(text, wide));
        told.unitsInto(wide, units);
        told.keyInto(units, keyRow);
        if (place == NONE) {
            return keyRow.size();
        }
        checkPlace(place, keyRow.size());
        return keyRow.get(place);
    }

    public int find(int slot, int wanted, int from)
            throws IndexOutOfBoundsException, IllegalArgumentException, IllegalStateException {
        Row text = textOf(slot);
        Row wantedText = textOf(wanted);
        checkArgument(isWithin(from, 0, TEXT_ROOM));
        // The text comes last, because the ends of its folded letters are asked for below.
        checkForm(forms.foldInto(wantedText, wideOther) && forms.foldInto(text, wide));
        if (wideOther.size() == 0) {
            return NONE;
        }
        long clusters = borders.clusterBreaks(text);
        for (int place = from; place < text.size(); place++) {
            int end = Borders.isBeginning(clusters, place) ? endOfFound(place, text.size(), clusters) : NONE;
            if (end != NONE) {
                return 100 * place + end;
            }
        }
        return NONE;
    }

    public int pattern() throws IllegalStateException {
        boolean isPattern = draft.read(tape);
        tape.cutTo(0);
        if (!isPattern) {
            throw new IllegalStateException("the tape is no pattern");
        }
        Pattern old = taken;
        taken = draft;
        draft = old;
        hasPattern = true;
        return taken.size();
    }

    public int match(int slot, int place) throws IndexOutOfBoundsException, IllegalStateException {
        Row text = textOf(slot);
        checkPlace(place, text.size() + 1);
        if (!hasPattern) {
            throw new IllegalStateException("there is no pattern");
        }
        return taken.endFrom(text, place, tables);
    }

    // ---- transliteration, messages, encoding

    public int transliterate(int slot, int target, boolean isBack)
            throws IndexOutOfBoundsException, IllegalStateException {
        Row text = textOf(slot);
        Row into = textOf(target);
        int firstPass = isBack ? 1 : 0;
        if (!tables.passInto(firstPass, isBack, text, passed)
                || !tables.passInto(1 - firstPass, isBack, passed, passedTwice)) {
            throw new IllegalStateException("a pass puts out more than 40 letters");
        }
        into.takeOver(passedTwice);
        return into.size();
    }

    public int classOf(int language, int number) throws IndexOutOfBoundsException, IllegalArgumentException {
        Language told = languageOf(language);
        checkArgument(isNumber(number));
        return told.classFor(number);
    }

    public int message(int language, int one, int two, int three, int four)
            throws IndexOutOfBoundsException, IllegalArgumentException, IllegalStateException {
        Language told = languageOf(language);
        checkArgument(isNumber(one) && isNumber(two) && isNumber(three) && isNumber(four));
        reader.begin();
        reader.tellNumber(one, told.classFor(one));
        reader.tellNumber(two, told.classFor(two));
        reader.tellNumber(three, told.classFor(three));
        reader.tellNumber(four, told.classFor(four));
        boolean isMessage = reader.readAll();
        tape.cutTo(0);
        if (!isMessage) {
            throw new IllegalStateException("the tape is no message");
        }
        out.takeOver(reader.result());
        return out.size();
    }

    public long word(int i) {
        long found = 0;
        for (int k = 7; k >= 0; k--) {
            long place = 8L * i + k;
            boolean isThere = place >= 0 && place < out.size();
            found = found << 8 | (isThere ? out.get((int) place) & 255 : 0);
        }
        return found;
    }

    public int encode(int slot) throws IndexOutOfBoundsException {
        Row text = textOf(slot);
        out.cutTo(0);
        int state = 0;
        for (int i = 0; i < text.size(); i++) {
            int letter = text.get(i);
            int needed = letter < STATE_ZERO_LETTERS ? 0 : 1;
            if (needed != state) {
                out.add(needed == 1 ? TO_STATE_ONE : TO_STATE_ZERO);
                state = needed;
            }
            out.add(FIRST_BYTE + letter - needed * STATE_ZERO_LETTERS);
        }
        if (state == 1) {
            out.add(TO_STATE_ZERO);
        }
        return out.size();
    }

    public int decode(int slot) throws IndexOutOfBoundsException, IllegalStateException {
        Row text = textOf(slot);
        int errors = decodeInto(passed);
        tape.cutTo(0);
        if (errors == NONE) {
            throw new IllegalStateException("there would be more than 40 letters");
        }
        text.takeOver(passed);
        return errors;
    }

    // ---- helpers of the face

    private static boolean isWithin(int number, int least, int greatest) {
        return number >= least && number <= greatest;
    }

    private static boolean isLetter(int letter) {
        return isWithin(letter, 0, LETTERS - 1);
    }

    private static boolean isNumber(int number) {
        return isWithin(number, 0, GREATEST_NUMBER);
    }

    private static boolean isRange(int from, int to) {
        return isWithin(from, 0, 99) && isWithin(to, from, 99);
    }

    private static void checkLetter(int letter) {
        if (!isLetter(letter)) {
            throw new IndexOutOfBoundsException("no such letter");
        }
    }

    private static void checkPlace(int place, int places) {
        if (place < 0 || place >= places) {
            throw new IndexOutOfBoundsException("no such place");
        }
    }

    private static void checkArgument(boolean isInRange) {
        if (!isInRange) {
            throw new IllegalArgumentException("an argument is out of range");
        }
    }

    private static void checkWeights(int first, int second, int third) {
        checkArgument(isWithin(first, 0, 99) && isWithin(second, 0, 9) && isWithin(third, 0, 9));
    }

    private static void checkForm(boolean isFound) {
        if (!isFound) {
            throw new IllegalStateException("the form of the text is too long");
        }
    }

    private Row textOf(int slot) {
        if (slot < 0 || slot >= texts.length) {
            throw new IndexOutOfBoundsException("no such slot");
        }
        return texts[slot];
    }

    private Language languageOf(int language) {
        Language told = tables.languageAt(language);
        if (told == null) {
            throw new IndexOutOfBoundsException("no such language");
        }
        return told;
    }

    /** Folding goes letter by letter, so what is between two places is folded by itself within the whole. */
    private int endOfFound(int place, int size, long clusters) {
        int begin = forms.foldedEnd(place);
        if (!wide.holds(wideOther, begin)) {
            return NONE;
        }
        int wantedEnd = begin + wideOther.size();
        for (int end = place + 1; end <= size; end++) {
            boolean isBorder = end == size || Borders.isBeginning(clusters, end);
            if (isBorder && forms.foldedEnd(end) == wantedEnd) {
                return end;
            }
        }
        return NONE;
    }

    /** Answers how many errors there are, or NONE if there would be too many letters. */
    private int decodeInto(Row into) {
        into.cutTo(0);
        int errors = 0;
        int state = 0;
        for (int i = 0; i < tape.size(); i++) {
            int code = tape.get(i);
            if (code == TO_STATE_ONE || code == TO_STATE_ZERO) {
                state = code == TO_STATE_ONE ? 1 : 0;
                continue;
            }
            int letter = code - FIRST_BYTE + state * STATE_ZERO_LETTERS;
            boolean isRight = code >= FIRST_BYTE && letter < (state == 0 ? STATE_ZERO_LETTERS : LETTERS);
            errors += isRight ? 0 : 1;
            if (!into.add(isRight ? letter : 0)) {
                return NONE;
            }
        }
        return errors + state;
    }

    private static int cellOf(int[] cells, int place, int otherwise) {
        return place < 0 || place >= cells.length ? otherwise : cells[place];
    }

    private static void setCell(int[] cells, int place, int cell) {
        if (place >= 0 && place < cells.length) {
            cells[place] = cell;
        }
    }

    private static void copyCells(int[] from, int[] into) {
        for (int i = 0; i < from.length && i < into.length; i++) {
            into[i] = from[i];
        }
    }

    private static void fillCells(int[] cells, int cell) {
        for (int i = 0; i < cells.length; i++) {
            cells[i] = cell;
        }
    }

    /** A row of numbers with a room of its own: a place outside of it answers NONE, and takes nothing. */
    private static final class Row {
        private final int[] cells;
        private int count;

        Row(int room) {
            cells = new int[room < 0 ? 0 : room];
        }

        int size() {
            return count;
        }

        int get(int place) {
            return place < 0 || place >= count || place >= cells.length ? NONE : cells[place];
        }

        void set(int place, int cell) {
            if (place >= 0 && place < count && place < cells.length) {
                cells[place] = cell;
            }
        }

        boolean add(int cell) {
            if (count < 0 || count >= cells.length) {
                return false;
            }
            cells[count] = cell;
            count++;
            return true;
        }

        int removeLast() {
            int last = get(count - 1);
            cutTo(count - 1);
            return last;
        }

        void cutTo(int size) {
            if (size >= 0 && size < count) {
                count = size;
            }
        }

        void refill(int cell, int size) {
            count = 0;
            for (int i = 0; i < size; i++) {
                add(cell);
            }
        }

        void takeOver(Row other) {
            if (other == this) {
                return;
            }
            count = 0;
            for (int i = 0; i < other.count; i++) {
                add(other.get(i));
            }
        }

        boolean holds(Row part, int place) {
            if (place < 0 || part.count > count - place) {
                return false;
            }
            for (int i = 0; i < part.count; i++) {
                if (get(place + i) != part.get(i)) {
                    return false;
                }
            }
            return true;
        }

        boolean isLike(Row other) {
            return count == other.count && holds(other, 0);
        }

        int placeOf(int cell) {
            for (int i = 0; i < count; i++) {
                if (get(i) == cell) {
                    return i;
                }
            }
            return NONE;
        }

        void turn(int from, int to) {
            for (int low = from, high = to; low < high; low++, high--) {
                int cell = get(low);
                set(low, get(high));
                set(high, cell);
            }
        }
    }

    /** All that is told, but for the texts: what a version keeps. */
    private static final class Tables {
        private final int[] joins;
        private final int[] directions;
        private final int[] kinds;
        private final int[] likes;
        private final int[] splitOnes;
        private final int[] splitOthers;
        private final int[] capitalOnes;
        private final int[] capitalOthers;
        private final int[] partnersTold;
        private final int[] openings;
        private final Language[] languages;
        private final Row[] words;
        private int wordsTold;
        private final Rule[] rules;
        private int rulesTold;

        Tables() {
            joins = new int[LETTERS];
            directions = new int[LETTERS];
            kinds = new int[LETTERS];
            likes = new int[LETTERS];
            splitOnes = new int[LETTERS];
            splitOthers = new int[LETTERS];
            capitalOnes = new int[LETTERS];
            capitalOthers = new int[LETTERS];
            partnersTold = new int[LETTERS];
            openings = new int[LETTERS];
            fillCells(directions, NEUTRAL);
            for (int i = 0; i < likes.length; i++) {
                likes[i] = i;
            }
            fillCells(splitOnes, NONE);
            fillCells(splitOthers, NONE);
            fillCells(capitalOnes, NONE);
            fillCells(capitalOthers, NONE);
            fillCells(partnersTold, NONE);
            languages = new Language[LANGUAGES];
            for (int i = 0; i < languages.length; i++) {
                languages[i] = new Language();
            }
            words = new Row[WORDS];
            for (int i = 0; i < words.length; i++) {
                words[i] = new Row(WORD_ROOM);
            }
            rules = new Rule[RULES];
            for (int i = 0; i < rules.length; i++) {
                rules[i] = new Rule();
            }
        }

        void copyFrom(Tables other) {
            copyCells(other.joins, joins);
            copyCells(other.directions, directions);
            copyCells(other.kinds, kinds);
            copyCells(other.likes, likes);
            copyCells(other.splitOnes, splitOnes);
            copyCells(other.splitOthers, splitOthers);
            copyCells(other.capitalOnes, capitalOnes);
            copyCells(other.capitalOthers, capitalOthers);
            copyCells(other.partnersTold, partnersTold);
            copyCells(other.openings, openings);
            for (int i = 0; i < languages.length && i < other.languages.length; i++) {
                languages[i].copyFrom(other.languages[i]);
            }
            for (int i = 0; i < words.length && i < other.words.length; i++) {
                words[i].takeOver(other.words[i]);
            }
            wordsTold = other.wordsTold;
            for (int i = 0; i < rules.length && i < other.rules.length; i++) {
                rules[i].copyFrom(other.rules[i]);
            }
            rulesTold = other.rulesTold;
        }

        void tell(int letter, int joining, int direction, int kind, int like) {
            setCell(joins, letter, joining);
            setCell(directions, letter, direction);
            setCell(kinds, letter, kind);
            setCell(likes, letter, like);
        }

        void tellSplit(int letter, int one, int other) {
            setCell(splitOnes, letter, one);
            setCell(splitOthers, letter, other);
        }

        void tellCapital(int letter, int one, int other) {
            setCell(capitalOnes, letter, one);
            setCell(capitalOthers, letter, other);
        }

        void tellPartners(int opening, int closing) {
            setCell(partnersTold, opening, closing);
            setCell(partnersTold, closing, opening);
            setCell(openings, opening, 1);
            setCell(openings, closing, 0);
        }

        int joinsOf(int letter) {
            return cellOf(joins, letter, 0);
        }

        int directionOf(int letter) {
            return cellOf(directions, letter, NEUTRAL);
        }

        int kindOf(int letter) {
            return cellOf(kinds, letter, OTHER);
        }

        int likeOf(int letter) {
            return cellOf(likes, letter, letter);
        }

        int splitOneOf(int letter) {
            return cellOf(splitOnes, letter, NONE);
        }

        int splitOtherOf(int letter) {
            return cellOf(splitOthers, letter, NONE);
        }

        int capitalOneOf(int letter) {
            return cellOf(capitalOnes, letter, NONE);
        }

        int capitalOtherOf(int letter) {
            return cellOf(capitalOthers, letter, NONE);
        }

        int partnerOf(int letter) {
            return cellOf(partnersTold, letter, NONE);
        }

        boolean isOpening(int letter) {
            return partnerOf(letter) != NONE && cellOf(openings, letter, 0) == 1;
        }

        boolean isClosing(int letter) {
            return partnerOf(letter) != NONE && cellOf(openings, letter, 0) == 0;
        }

        /** The lowest letter that splits into these two, or NONE. */
        int joinedOf(int one, int other) {
            for (int letter = 0; letter < LETTERS; letter++) {
                if (splitOneOf(letter) == one && splitOtherOf(letter) == other) {
                    return letter;
                }
            }
            return NONE;
        }

        /** Marks with 1 the letters that are in the capital form of some other one. */
        void capitalsInto(Row marks) {
            marks.refill(0, LETTERS);
            for (int letter = 0; letter < LETTERS; letter++) {
                int one = capitalOneOf(letter);
                int other = capitalOtherOf(letter);
                if (one != letter) {
                    marks.set(one, 1);
                }
                if (other != letter) {
                    marks.set(other, 1);
                }
            }
        }

        Language languageAt(int language) {
            return language < 0 || language >= languages.length ? null : languages[language];
        }

        boolean takeWord(Row text) {
            if (wordsTold < 0 || wordsTold >= words.length) {
                return false;
            }
            words[wordsTold].takeOver(text);
            wordsTold++;
            return true;
        }

        int wordCount() {
            return wordsTold;
        }

        Row wordAt(int word) {
            return word < 0 || word >= wordsTold || word >= words.length ? null : words[word];
        }

        Rule nextRule() {
            return rulesTold < 0 || rulesTold >= rules.length ? null : rules[rulesTold];
        }

        int countRule() {
            rulesTold++;
            return rulesTold;
        }

        /** One pass of transliteration; false if it would put out more than a text holds. */
        boolean passInto(int pass, boolean isBack, Row from, Row into) {
            into.cutTo(0);
            int place = 0;
            for (int step = 0; step < TEXT_ROOM && place < from.size(); step++) {
                Rule rule = fittingRule(pass, isBack, from, place, into);
                boolean isPut;
                if (rule == null) {
                    isPut = into.add(from.get(place));
                    place++;
                } else {
                    isPut = rule.putTarget(isBack, into);
                    place += rule.sourceOf(isBack).size();
                }
                if (!isPut) {
                    return false;
                }
            }
            return true;
        }

        private Rule fittingRule(int pass, boolean isBack, Row from, int place, Row into) {
            for (int i = 0; i < rulesTold && i < rules.length; i++) {
                if (rules[i].fits(pass, isBack, from, place, into)) {
                    return rules[i];
                }
            }
            return null;
        }
    }

    /** What is told of one language: weights of letters and contractions, plural rules. */
    private static final class Language {
        // A contraction weighs behind the letters, so that a letter or a contraction is one unit by its number.
        private final int[] firsts;
        private final int[] seconds;
        private final int[] thirds;
        private final Row ones;
        private final Row others;
        private final PluralRule[] plurals;
        private int pluralsTold;

        Language() {
            firsts = new int[UNITS];
            seconds = new int[UNITS];
            thirds = new int[UNITS];
            ones = new Row(CONTRACTIONS);
            others = new Row(CONTRACTIONS);
            plurals = new PluralRule[PLURALS];
            for (int i = 0; i < plurals.length; i++) {
                plurals[i] = new PluralRule();
            }
        }

        void copyFrom(Language other) {
            copyCells(other.firsts, firsts);
            copyCells(other.seconds, seconds);
            copyCells(other.thirds, thirds);
            ones.takeOver(other.ones);
            others.takeOver(other.others);
            for (int i = 0; i < plurals.length && i < other.plurals.length; i++) {
                plurals[i].copyFrom(other.plurals[i]);
            }
            pluralsTold = other.pluralsTold;
        }

        void weighUnit(int unit, int first, int second, int third) {
            setCell(firsts, unit, first);
            setCell(seconds, unit, second);
            setCell(thirds, unit, third);
        }

        int contractionCount() {
            return ones.size();
        }

        /** The unit of a contraction, or NONE. */
        int contractionOf(int one, int other) {
            for (int i = 0; i < ones.size(); i++) {
                if (ones.get(i) == one && others.get(i) == other) {
                    return LETTERS + i;
                }
            }
            return NONE;
        }

        int addContraction(int one, int other) {
            if (!ones.add(one) || !others.add(other)) {
                return NONE;
            }
            return LETTERS + ones.size() - 1;
        }

        void unitsInto(Row text, Row units) {
            units.cutTo(0);
            for (int i = 0; i < text.size(); i++) {
                int contraction = contractionOf(text.get(i), text.get(i + 1));
                if (contraction == NONE) {
                    units.add(text.get(i));
                } else {
                    units.add(contraction);
                    i++;
                }
            }
        }

        void keyInto(Row units, Row key) {
            key.cutTo(0);
            for (int rank = 0; rank < 3; rank++) {
                if (rank > 0) {
                    key.add(0);
                }
                for (int i = 0; i < units.size(); i++) {
                    int weight = weightOf(units.get(i), rank);
                    if (weight > 0) {
                        key.add(weight);
                    }
                }
            }
        }

        /** Orders two rows of units by their weights of one rank alone. */
        int orderOf(Row one, Row other, int rank) {
            int i = nextWeighing(one, 0, rank);
            int j = nextWeighing(other, 0, rank);
            for (int step = 0; step < FORM_ROOM && i < one.size() && j < other.size(); step++) {
                int weight = weightOf(one.get(i), rank);
                int otherWeight = weightOf(other.get(j), rank);
                if (weight != otherWeight) {
                    return weight < otherWeight ? -1 : 1;
                }
                i = nextWeighing(one, i + 1, rank);
                j = nextWeighing(other, j + 1, rank);
            }
            boolean isRest = i < one.size();
            boolean isOtherRest = j < other.size();
            return isRest == isOtherRest ? 0 : isOtherRest ? -1 : 1;
        }

        private int nextWeighing(Row units, int from, int rank) {
            for (int i = from; i < units.size(); i++) {
                if (weightOf(units.get(i), rank) > 0) {
                    return i;
                }
            }
            return units.size();
        }

        private int weightOf(int unit, int rank) {
            return cellOf(rank == 0 ? firsts : rank == 1 ? seconds : thirds, unit, 0);
        }

        PluralRule nextPlural() {
            return pluralsTold < 0 || pluralsTold >= plurals.length ? null : plurals[pluralsTold];
        }

        int countPlural() {
            pluralsTold++;
            return pluralsTold;
        }

        int classFor(int number) {
            for (int i = 0; i < pluralsTold && i < plurals.length; i++) {
                if (plurals[i].fits(number)) {
                    return plurals[i].classTold();
                }
            }
            return NONE;
        }
    }

    private static final class PluralRule {
        private int classNumber;
        private int modulo;
        private int from;
        private int to;
        private int other;
        private int otherFrom;
        private int otherTo;

        PluralRule() {
            modulo = 1;
        }

        void tell(int classTold, int modulo, int from, int to, int other, int otherFrom, int otherTo) {
            this.classNumber = classTold;
            this.modulo = modulo;
            this.from = from;
            this.to = to;
            this.other = other;
            this.otherFrom = otherFrom;
            this.otherTo = otherTo;
        }

        void copyFrom(PluralRule rule) {
            tell(rule.classNumber, rule.modulo, rule.from, rule.to, rule.other, rule.otherFrom, rule.otherTo);
        }

        int classTold() {
            return classNumber;
        }

        boolean fits(int number) {
            boolean isExcepted = other > 0 && isWithin(remainder(number, other), otherFrom, otherTo);
            return !isExcepted && isWithin(remainder(number, modulo), from, to);
        }

        private static int remainder(int number, int divisor) {
            return divisor < 1 ? 0 : number % divisor;
        }
    }

    private static final class Rule {
        private int passTold;
        private final Row ahead;
        private final Row source;
        private final Row behind;
        private final Row target;

        Rule() {
            ahead = new Row(CONTEXT_ROOM);
            source = new Row(SOURCE_ROOM);
            behind = new Row(CONTEXT_ROOM);
            target = new Row(SOURCE_ROOM);
        }

        void tell(int pass, Row aheadText, Row sourceText, Row behindText, Row targetText) {
            passTold = pass;
            ahead.takeOver(aheadText);
            source.takeOver(sourceText);
            behind.takeOver(behindText);
            target.takeOver(targetText);
        }

        void copyFrom(Rule rule) {
            tell(rule.passTold, rule.ahead, rule.source, rule.behind, rule.target);
        }

        Row sourceOf(boolean isBack) {
            return isBack ? target : source;
        }

        boolean fits(int pass, boolean isBack, Row from, int place, Row done) {
            Row taken = sourceOf(isBack);
            return pass == passTold && taken.size() > 0 && from.holds(taken, place)
                    && done.holds(ahead, done.size() - ahead.size()) && from.holds(behind, place + taken.size());
        }

        boolean putTarget(boolean isBack, Row into) {
            Row given = isBack ? source : target;
            for (int i = 0; i < given.size(); i++) {
                if (!into.add(given.get(i))) {
                    return false;
                }
            }
            return true;
        }
    }

    /** Finds forms of texts; each answers false if one has more than 80 letters on the way. */
    private static final class Forms {
        private final Tables tables;
        private final Row pending;
        private final Row single;
        private final Row piece;
        private final Row first;
        private final Row ends;

        Forms(Tables told) {
            tables = told;
            pending = new Row(FORM_ROOM + 1);
            single = new Row(2);
            piece = new Row(FORM_ROOM);
            first = new Row(FORM_ROOM);
            ends = new Row(TEXT_ROOM);
        }

        boolean formInto(Row text, int what, Row into) {
            switch (what) {
                case 0:
                    return splitInto(text, into);
                case 1:
                    return joinInto(text, into);
                case 2:
                    return foldInto(text, into);
                default:
                    return skeletonInto(text, into);
            }
        }

        boolean splitInto(Row text, Row into) {
            into.cutTo(0);
            int total = text.size();
            for (int i = 0; i < text.size(); i++) {
                total = splitLetter(text.get(i), total, into);
                if (total > FORM_ROOM) {
                    return false;
                }
            }
            sortMarks(into);
            return true;
        }

        /** Answers how many letters there are, with those that are still to come, after one has been split. */
        private int splitLetter(int letter, int before, Row into) {
            int total = before;
            pending.cutTo(0);
            pending.add(letter);
            for (int step = 0; step < 4 * FORM_ROOM && pending.size() > 0 && total <= FORM_ROOM; step++) {
                int next = pending.removeLast();
                int one = tables.splitOneOf(next);
                if (one == NONE) {
                    into.add(next);
                } else {
                    total++;
                    pending.add(tables.splitOtherOf(next));
                    pending.add(one);
                }
            }
            return total;
        }

        private void sortMarks(Row row) {
            for (int i = 1; i < row.size(); i++) {
                int letter = row.get(i);
                int joins = tables.joinsOf(letter);
                int place = i;
                // A letter of the class 0 is never greater, so nothing goes past one.
                for (; joins > 0 && place > 0 && tables.joinsOf(row.get(place - 1)) > joins; place--) {
                    row.set(place, row.get(place - 1));
                }
                row.set(place, letter);
            }
        }

        boolean joinInto(Row text, Row into) {
            if (!splitInto(text, into)) {
                return false;
            }
            int kept = into.size() < 1 ? 0 : 1;
            for (int i = 1; i < into.size(); i++) {
                int letter = into.get(i);
                int start = startFor(into, kept, tables.joinsOf(letter));
                int joined = start == NONE ? NONE : tables.joinedOf(into.get(start), letter);
                if (joined == NONE) {
                    into.set(kept, letter);
                    kept++;
                } else {
                    into.set(start, joined);
                }
            }
            into.cutTo(kept);
            return true;
        }

        /** The last letter of the class 0 among those kept, if nothing stands in the way behind it; else NONE. */
        private int startFor(Row row, int kept, int joins) {
            for (int i = kept - 1; i >= 0; i--) {
                int between = tables.joinsOf(row.get(i));
                if (between == 0) {
                    return i;
                }
                if (between >= joins) {
                    return NONE;
                }
            }
            return NONE;
        }

        boolean foldInto(Row text, Row into) {
            into.cutTo(0);
            ends.cutTo(0);
            int total = 0;
            for (int i = 0; i < text.size(); i++) {
                capitalInto(text.get(i), single);
                if (!splitInto(single, piece)) {
                    return false;
                }
                total += piece.size();
                if (total > FORM_ROOM) {
                    return false;
                }
                addUnmarked(piece, into);
                ends.add(into.size());
            }
            return true;
        }

        private void capitalInto(int letter, Row into) {
            into.cutTo(0);
            int one = tables.capitalOneOf(letter);
            int other = tables.capitalOtherOf(letter);
            into.add(one == NONE ? letter : one);
            if (one != NONE && other != NONE) {
                into.add(other);
            }
        }

        private void addUnmarked(Row from, Row into) {
            for (int i = 0; i < from.size(); i++) {
                if (tables.joinsOf(from.get(i)) == 0) {
                    into.add(from.get(i));
                }
            }
        }

        /** How many folded letters stand ahead of a place of the text that was folded last. */
        int foldedEnd(int place) {
            return place < 1 ? 0 : ends.get(place - 1);
        }

        boolean skeletonInto(Row text, Row into) {
            if (!splitInto(text, first)) {
                return false;
            }
            for (int i = 0; i < first.size(); i++) {
                first.set(i, tables.likeOf(first.get(i)));
            }
            return splitInto(first, into);
        }
    }

    /** Finds the levels of the text that it looks at, and its order on the screen. */
    private static final class Levels {
        private final Tables tables;
        private final Row frameOf;
        private final Row frameLevels;
        private final Row frameArounds;
        private final Row frameBeginnings;
        // The letters of the frame that is being found: their places, the letters, which way they go.
        private final Row places;
        private final Row members;
        private final Row ways;
        private final Row open;
        private final Row closings;
        private final Row found;
        private final Row order;

        Levels(Tables told) {
            tables = told;
            frameOf = new Row(TEXT_ROOM);
            frameLevels = new Row(TEXT_ROOM + 1);
            frameArounds = new Row(TEXT_ROOM + 1);
            frameBeginnings = new Row(TEXT_ROOM + 1);
            places = new Row(TEXT_ROOM);
            members = new Row(TEXT_ROOM);
            ways = new Row(TEXT_ROOM);
            open = new Row(TEXT_ROOM);
            closings = new Row(TEXT_ROOM);
            found = new Row(TEXT_ROOM);
            order = new Row(TEXT_ROOM);
        }

        private static boolean isIsolate(int direction) {
            return direction == ISOLATE_LEFT || direction == ISOLATE_RIGHT || direction == ISOLATE_FIRST;
        }

        private static boolean isEmbed(int direction) {
            return direction == EMBED_LEFT || direction == EMBED_RIGHT;
        }

        private static int wayOf(int level) {
            return (level & 1) == 0 ? LEFT : RIGHT;
        }

        /** The base of what stands from a place on: up to the end, or up to what closes an isolate. */
        int baseFrom(Row text, int from, boolean isIsolated) {
            int depth = 0;
            for (int i = from; i < text.size(); i++) {
                int direction = tables.directionOf(text.get(i));
                if (isIsolate(direction)) {
                    depth++;
                } else if (direction == POP_ISOLATE) {
                    if (depth == 0 && isIsolated) {
                        return 0;
                    }
                    depth = depth > 0 ? depth - 1 : 0;
                } else if (depth == 0 && (direction == LEFT || direction == RIGHT)) {
                    return direction == RIGHT ? 1 : 0;
                }
            }
            return 0;
        }

        void lookAt(Row text, int base) {
            layFrames(text, base == NONE ? baseFrom(text, 0, false) : base);
            found.refill(0, text.size());
            for (int frame = 0; frame < frameLevels.size(); frame++) {
                int level = frameLevels.get(frame);
                gather(text, frame);
                settleNumbers(wayOf(level));
                settlePartners(wayOf(level));
                settleRest(wayOf(level));
                tellLevels(level);
            }
        }

        int levelAt(int place) {
            return found.get(place);
        }

        private void layFrames(Row text, int base) {
            frameOf.cutTo(0);
            frameLevels.cutTo(0);
            frameArounds.cutTo(0);
            frameBeginnings.cutTo(0);
            int frame = addFrame(base, NONE, NONE);
            for (int i = 0; i < text.size(); i++) {
                int direction = tables.directionOf(text.get(i));
                if (direction == POP_ISOLATE) {
                    frame = aroundIsolate(frame);
                }
                frameOf.add(frame);
                if (isEmbed(direction) || isIsolate(direction)) {
                    frame = addFrame(levelWithin(text, i, direction, frame), frame, direction);
                } else if (direction == POP && isEmbed(frameBeginnings.get(frame))) {
                    frame = frameArounds.get(frame);
                }
            }
        }

        private int addFrame(int level, int around, int beginning) {
            frameLevels.add(level);
            frameArounds.add(around);
            frameBeginnings.add(beginning);
            return frameLevels.size() - 1;
        }

        private int levelWithin(Row text, int place, int direction, int frame) {
            int around = frameLevels.get(frame);
            boolean isRight = direction == EMBED_RIGHT || direction == ISOLATE_RIGHT
                    || direction == ISOLATE_FIRST && baseFrom(text, place + 1, true) == 1;
            int next = around + 1;
            if (wayOf(next) != (isRight ? RIGHT : LEFT)) {
                next++;
            }
            return next > GREATEST_LEVEL ? around : next;
        }

        /** The frame around the innermost open isolate; without one, the same frame. */
        private int aroundIsolate(int frame) {
            int inner = frame;
            for (int step = 0; step <= TEXT_ROOM && inner > 0; step++) {
                if (isIsolate(frameBeginnings.get(inner))) {
                    return frameArounds.get(inner);
                }
                inner = frameArounds.get(inner);
            }
            return frame;
        }

        private void gather(Row text, int frame) {
            places.cutTo(0);
            members.cutTo(0);
            ways.cutTo(0);
            for (int i = 0; i < text.size(); i++) {
                if (frameOf.get(i) == frame) {
                    int direction = tables.directionOf(text.get(i));
                    places.add(i);
                    members.add(text.get(i));
                    ways.add(direction <= NUMBER ? direction : NEUTRAL);
                }
            }
        }

        private void settleNumbers(int levelWay) {
            int last = levelWay;
            for (int i = 0; i < ways.size(); i++) {
                int way = ways.get(i);
                if (way == LEFT || way == RIGHT) {
                    last = way;
                } else if (way == NUMBER && last == LEFT) {
                    ways.set(i, LEFT);
                }
            }
        }

        private void settlePartners(int levelWay) {
            matchPartners();
            for (int i = 0; i < members.size(); i++) {
                int closing = closings.get(i);
                int way = closing == NONE ? NEUTRAL : pairWay(i, closing, levelWay);
                if (way != NEUTRAL) {
                    ways.set(i, way);
                    ways.set(closing, way);
                }
            }
        }

        private void matchPartners() {
            closings.refill(NONE, members.size());
            open.cutTo(0);
            for (int i = 0; i < members.size(); i++) {
                int letter = members.get(i);
                if (tables.directionOf(letter) != NEUTRAL) {
                    continue;
                }
                if (tables.isOpening(letter)) {
                    open.add(i);
                } else if (tables.isClosing(letter)) {
                    closeLast(i, tables.partnerOf(letter));
                }
            }
        }

        private void closeLast(int closing, int opening) {
            for (int i = open.size() - 1; i >= 0; i--) {
                if (members.get(open.get(i)) == opening) {
                    closings.set(open.get(i), closing);
                    open.cutTo(i);
                    return;
                }
            }
        }

        private int pairWay(int opening, int closing, int levelWay) {
            int otherWay = levelWay == LEFT ? RIGHT : LEFT;
            boolean isOther = false;
            for (int i = opening + 1; i < closing; i++) {
                int way = plainWay(i);
                if (way == levelWay) {
                    return levelWay;
                }
                isOther = isOther || way == otherWay;
            }
            if (!isOther) {
                return NEUTRAL;
            }
            return wayAhead(opening, levelWay) == otherWay ? otherWay : levelWay;
        }

        /** Which way a letter of the frame goes, numbers being right. */
        private int plainWay(int member) {
            int way = ways.get(member);
            return way == NUMBER ? RIGHT : way;
        }

        private int wayAhead(int member, int otherwise) {
            for (int i = member - 1; i >= 0; i--) {
                if (plainWay(i) != NEUTRAL) {
                    return plainWay(i);
                }
            }
            return otherwise;
        }

        private int wayBehind(int member, int otherwise) {
            for (int i = member + 1; i < ways.size(); i++) {
                if (plainWay(i) != NEUTRAL) {
                    return plainWay(i);
                }
            }
            return otherwise;
        }

        private void settleRest(int levelWay) {
            for (int i = 0; i < ways.size(); i++) {
                if (ways.get(i) == NEUTRAL) {
                    // One that was settled just ahead goes like its whole row, so it may stand for what is ahead.
                    int ahead = wayAhead(i, levelWay);
                    ways.set(i, ahead == wayBehind(i, levelWay) ? ahead : levelWay);
                }
            }
        }

        private void tellLevels(int level) {
            boolean isEven = wayOf(level) == LEFT;
            for (int i = 0; i < ways.size(); i++) {
                int way = ways.get(i);
                int more = way == NUMBER ? (isEven ? 2 : 1) : way == wayOf(level) ? 0 : 1;
                found.set(places.get(i), level + more);
            }
        }

        /** The places of the text that was looked at last, from the left of the screen on. */
        Row screen() {
            order.cutTo(0);
            int greatest = 0;
            for (int i = 0; i < found.size(); i++) {
                order.add(i);
                greatest = found.get(i) > greatest ? found.get(i) : greatest;
            }
            for (int level = greatest; level >= 1; level--) {
                turnRows(level);
            }
            return order;
        }

        private void turnRows(int level) {
            int from = NONE;
            for (int i = 0; i <= order.size(); i++) {
                boolean isIn = i < order.size() && found.get(order.get(i)) >= level;
                if (isIn && from == NONE) {
                    from = i;
                } else if (!isIn && from != NONE) {
                    order.turn(from, i - 1);
                    from = NONE;
                }
            }
        }
    }

    /** Finds where clusters, words and lines end; bit i stands for the place ahead of the letter i. */
    private static final class Borders {
        private final Tables tables;

        Borders(Tables told) {
            tables = told;
        }

        /** Whether a cluster begins at a place that there is in the text. */
        static boolean isBeginning(long clusters, int place) {
            return place == 0 || isMarked(clusters, place);
        }

        private static boolean isMarked(long marks, int place) {
            return place > 0 && place < 64 && (marks >>> place & 1) != 0;
        }

        private int kindAt(Row text, int place) {
            return tables.kindOf(text.get(place));
        }

        long clusterBreaks(Row text) {
            long clusters = 0;
            for (int i = 1; i < text.size(); i++) {
                if (kindAt(text, i) != MARK && kindAt(text, i - 1) != JOINER) {
                    clusters |= 1L << i;
                }
            }
            return clusters;
        }

        long wordBreaks(Row text, boolean isLinesAlone) {
            long clusters = clusterBreaks(text);
            long seamless = seamlessEnds(text, clusters);
            long breaks = 0;
            int begin = 0;
            for (int i = 1; i < text.size(); i++) {
                if (!isMarked(clusters, i)) {
                    continue;
                }
                int ahead = kindAt(text, begin);
                int behind = kindAt(text, i);
                boolean isBreak = isWordBreak(ahead, behind, isMarked(seamless, i));
                if (isBreak && (!isLinesAlone || isLineBreak(ahead, behind))) {
                    breaks |= 1L << i;
                }
                begin = i;
            }
            return breaks;
        }

        private static boolean isWordBreak(int ahead, int behind, boolean isSeamlessEnd) {
            if (ahead == SEAMLESS && behind == SEAMLESS) {
                return isSeamlessEnd;
            }
            boolean isWordGoingOn = (ahead == LETTER || ahead == DIGIT) && (behind == LETTER || behind == DIGIT);
            return !isWordGoingOn && !(ahead == BLANK && behind == BLANK);
        }

        private static boolean isLineBreak(int ahead, int behind) {
            return ahead == BLANK && behind != BLANK || ahead == SEAMLESS && behind == SEAMLESS;
        }

        private long seamlessEnds(Row text, long clusters) {
            long ends = 0;
            int place = 0;
            for (int step = 0; step < TEXT_ROOM && place < text.size(); step++) {
                int end = clusterEnd(text, clusters, place);
                if (kindAt(text, place) == SEAMLESS) {
                    end = wordEnd(text, clusters, place, end);
                }
                ends |= 1L << end;
                place = end;
            }
            return ends;
        }

        private int clusterEnd(Row text, long clusters, int place) {
            for (int i = place + 1; i < text.size(); i++) {
                if (isMarked(clusters, i)) {
                    return i;
                }
            }
            return text.size();
        }

        /** Where the longest word of the dictionary ends that stands at a place among SEAMLESS clusters. */
        private int wordEnd(Row text, long clusters, int place, int otherwise) {
            int limit = seamlessLimit(text, clusters, place);
            int longest = 0;
            for (int i = 0; i < tables.wordCount(); i++) {
                Row word = tables.wordAt(i);
                if (word == null || word.size() <= longest || !text.holds(word, place)) {
                    continue;
                }
                int end = place + word.size();
                if (end == limit || end < limit && isMarked(clusters, end)) {
                    longest = word.size();
                }
            }
            return longest == 0 ? otherwise : place + longest;
        }

        private int seamlessLimit(Row text, long clusters, int place) {
            for (int i = place + 1; i < text.size(); i++) {
                if (isMarked(clusters, i) && kindAt(text, i) != SEAMLESS) {
                    return i;
                }
            }
            return text.size();
        }
    }

    /** A pattern as pieces: each has a set, perhaps one that it looks back for, perhaps a sign how often. */
    private static final class Pattern {
        // A set by its number: one letter, or one of these, or a kind behind OF_KIND; all others behind BUT.
        private static final int ALL = LETTERS;
        private static final int CAPITALS = LETTERS + 1;
        private static final int OF_KIND = 100;
        private static final int BUT = 1000;

        private final Row looks;
        private final Row sets;
        private final Row times;
        private final Row capitals;
        private int place;

        Pattern() {
            looks = new Row(PATTERN_SETS);
            sets = new Row(PATTERN_SETS);
            times = new Row(PATTERN_SETS);
            capitals = new Row(LETTERS);
        }

        int size() {
            return sets.size();
        }

        boolean read(Row tape) {
            looks.cutTo(0);
            sets.cutTo(0);
            times.cutTo(0);
            place = 0;
            for (int step = 0; step < TAPE_ROOM && place < tape.size(); step++) {
                if (!readPiece(tape)) {
                    return false;
                }
            }
            return true;
        }

        private boolean readPiece(Row tape) {
            int look = NONE;
            if (tape.get(place) == '<') {
                place++;
                look = readSet(tape);
                if (look == NONE) {
                    return false;
                }
            }
            int set = readSet(tape);
            if (set == NONE) {
                return false;
            }
            int often = tape.get(place);
            boolean isOften = often == '*' || often == '?';
            if (isOften) {
                place++;
            }
            return looks.add(look) && sets.add(set) && times.add(isOften ? often : NONE);
        }

        private int readSet(Row tape) {
            boolean isBut = tape.get(place) == '!';
            if (isBut) {
                place++;
            }
            int sign = tape.get(place);
            int set = sign == '#' ? readLetter(tape) : setOf(sign);
            place += sign == '#' ? 3 : 1;
            return set != NONE && isBut ? BUT + set : set;
        }

        private int readLetter(Row tape) {
            int tens = tape.get(place + 1) - '0';
            int ones = tape.get(place + 2) - '0';
            int letter = 10 * tens + ones;
            return isWithin(tens, 0, 9) && isWithin(ones, 0, 9) && isLetter(letter) ? letter : NONE;
        }

        private static int setOf(int sign) {
            switch (sign) {
                case '.':
                    return ALL;
                case 'L':
                    return OF_KIND + LETTER;
                case 'M':
                    return OF_KIND + MARK;
                case 'B':
                    return OF_KIND + BLANK;
                case 'D':
                    return OF_KIND + DIGIT;
                case 'S':
                    return OF_KIND + SEAMLESS;
                case 'C':
                    return CAPITALS;
                default:
                    return NONE;
            }
        }

        /** The furthest end of what fits from a place on, or NONE; all ways are gone at once, piece i as bit i. */
        int endFrom(Row text, int from, Tables tables) {
            tables.capitalsInto(capitals);
            int end = NONE;
            int states = withSkips(1);
            for (int i = from; i <= text.size() && states != 0; i++) {
                if ((states >>> sets.size() & 1) != 0) {
                    end = i;
                }
                states = withSkips(statesBehind(states, text, i, tables));
            }
            return end;
        }

        private int withSkips(int states) {
            int all = states;
            for (int i = 0; i < sets.size(); i++) {
                if ((all >>> i & 1) != 0 && times.get(i) != NONE) {
                    all |= 1 << i + 1;
                }
            }
            return all;
        }

        private int statesBehind(int states, Row text, int at, Tables tables) {
            int next = 0;
            if (at >= text.size()) {
                return next;
            }
            for (int i = 0; i < sets.size(); i++) {
                if ((states >>> i & 1) != 0 && isTaken(i, text, at, tables)) {
                    next |= times.get(i) == '*' ? 1 << i : 1 << i + 1;
                }
            }
            return next;
        }

        private boolean isTaken(int piece, Row text, int at, Tables tables) {
            int look = looks.get(piece);
            if (look != NONE && (at < 1 || !isInSet(look, text.get(at - 1), tables))) {
                return false;
            }
            return isInSet(sets.get(piece), text.get(at), tables);
        }

        private boolean isInSet(int set, int letter, Tables tables) {
            boolean isBut = set >= BUT;
            int plain = isBut ? set - BUT : set;
            boolean isIn;
            if (plain == ALL) {
                isIn = true;
            } else if (plain == CAPITALS) {
                isIn = capitals.get(letter) == 1;
            } else if (plain >= OF_KIND) {
                isIn = tables.kindOf(letter) == plain - OF_KIND;
            } else {
                isIn = letter == plain;
            }
            return isIn != isBut;
        }
    }

    /** Reads a message from the tape and puts it out at once; each part answers the place behind it, or NONE. */
    private static final class MessageReader {
        private final Row tape;
        private final Row numbers;
        private final Row classes;
        private final Row result;

        MessageReader(Row read) {
            tape = read;
            numbers = new Row(NUMBERS);
            classes = new Row(NUMBERS);
            result = new Row(OUT_ROOM);
        }

        void begin() {
            numbers.cutTo(0);
            classes.cutTo(0);
            result.cutTo(0);
        }

        void tellNumber(int number, int itsClass) {
            numbers.add(number);
            classes.add(itsClass);
        }

        Row result() {
            return result;
        }

        boolean readAll() {
            return readPieces(0, true, 0) == tape.size();
        }

        private int readPieces(int from, boolean isPut, int depth) {
            int place = from;
            for (int step = 0; step <= TAPE_ROOM; step++) {
                int sign = tape.get(place);
                if (sign == NONE || sign == '|' || sign == '}') {
                    return place;
                }
                if (sign == '{') {
                    place = readBraces(place + 1, isPut, depth);
                    if (place == NONE) {
                        return NONE;
                    }
                } else if (isWithin(sign, 32, 126)) {
                    putByte(sign, isPut);
                    place++;
                } else {
                    return NONE;
                }
            }
            return NONE;
        }

        private int readBraces(int from, boolean isPut, int depth) {
            int which = digitAt(from);
            int sign = tape.get(from + 1);
            if (which == NONE) {
                return NONE;
            }
            if (sign == '}') {
                putNumber(numbers.get(which), isPut);
                return from + 2;
            }
            if (sign != ':' || depth >= CHOICES) {
                return NONE;
            }
            return readCases(from + 2, which, isPut, depth + 1);
        }

        private int readCases(int from, int which, boolean isPut, int depth) {
            int place = from;
            boolean isWanted = isPut;
            for (int step = 0; step <= TAPE_ROOM; step++) {
                int equals = keyEnd(place);
                if (equals == NONE || tape.get(equals) != '=') {
                    return NONE;
                }
                boolean isChosen = isWanted && isFitting(place, which);
                place = readPieces(equals + 1, isChosen, depth);
                if (place == NONE) {
                    return NONE;
                }
                isWanted = isWanted && !isChosen;
                int sign = tape.get(place);
                place++;
                if (sign != '|') {
                    return sign == '}' ? place : NONE;
                }
            }
            return NONE;
        }

        private int keyEnd(int place) {
            switch (tape.get(place)) {
                case 'o':
                case 'f':
                case 'm':
                case 'x':
                    return place + 1;
                case '#':
                    return digitAt(place + 1) == NONE ? NONE : place + 2;
                default:
                    return NONE;
            }
        }

        private boolean isFitting(int place, int which) {
            switch (tape.get(place)) {
                case 'o':
                    return classes.get(which) == ONE;
                case 'f':
                    return classes.get(which) == FEW;
                case 'm':
                    return classes.get(which) == MANY;
                case '#':
                    return numbers.get(which) == digitAt(place + 1);
                default:
                    return true;
            }
        }

        private int digitAt(int place) {
            int digit = tape.get(place) - '0';
            return isWithin(digit, 0, NUMBERS - 1) ? digit : NONE;
        }

        private void putByte(int sign, boolean isPut) {
            // Beyond its room the row takes nothing: the message is still read on to its end.
            if (isPut) {
                result.add(sign);
            }
        }

        private void putNumber(int number, boolean isPut) {
            boolean isBegun = false;
            for (int unit = 100000; unit >= 1; unit /= 10) {
                int digit = number / unit % 10;
                isBegun = isBegun || digit > 0 || unit == 1;
                putByte('0' + digit, isPut && isBegun);
            }
        }
    }
}
