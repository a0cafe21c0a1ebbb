/** What the tests share: answers that are due, texts and tapes made shortly. */
final class Due {
    interface Call {
        long go();
    }

    static final Class<? extends RuntimeException> INDEX = IndexOutOfBoundsException.class;
    static final Class<? extends RuntimeException> ARGUMENT = IllegalArgumentException.class;
    static final Class<? extends RuntimeException> STATE = IllegalStateException.class;

    private static int wrong;
    private static int asked;

    private Due() {
    }

    static void is(String what, long want, Call call) {
        String got;
        try {
            got = Long.toString(call.go());
        } catch (RuntimeException e) {
            got = "throws." + e.getClass().getSimpleName();
        }
        same(what, Long.toString(want), got);
    }

    static void thrown(String what, Class<? extends RuntimeException> want, Call call) {
        String got;
        try {
            got = Long.toString(call.go());
        } catch (RuntimeException e) {
            got = "throws." + e.getClass().getSimpleName();
        }
        same(what, "throws." + want.getSimpleName(), got);
    }

    static void same(String what, String want, String got) {
        asked++;
        if (!want.equals(got)) {
            wrong++;
            System.out.println(what + " answered " + got + ", due is " + want);
        }
    }

    static void end() {
        System.out.println(asked + " answers asked, " + wrong + " wrong");
        System.exit(wrong == 0 && asked > 0 ? 0 : 1);
    }

    /** A call without an answer, as one that answers 0. */
    static Call quiet(Runnable call) {
        return () -> {
            call.run();
            return 0;
        };
    }

    static void write(LetterTables x, int slot, int... letters) {
        x.clear(slot);
        for (int letter : letters) {
            x.put(slot, letter);
        }
    }

    static String read(LetterTables x, int slot) {
        StringBuilder text = new StringBuilder();
        int size = x.at(slot, -1);
        for (int i = 0; i < size; i++) {
            text.append(i == 0 ? "" : " ").append(x.at(slot, i));
        }
        return text.toString();
    }

    static void feed(LetterTables x, String text) {
        for (int i = 0; i < text.length(); i++) {
            x.feed(text.charAt(i), 1);
        }
    }

    static String out(LetterTables x, int size) {
        StringBuilder text = new StringBuilder();
        for (int i = 0; i < size; i++) {
            text.append((char) (x.word(i / 8) >>> 8 * (i % 8) & 255));
        }
        return text.toString();
    }

    static String levels(LetterTables x, int slot, int base) {
        StringBuilder text = new StringBuilder();
        int size = x.at(slot, -1);
        for (int i = 0; i < size; i++) {
            text.append(i == 0 ? "" : " ").append(x.level(slot, i, base));
        }
        return text.toString();
    }

    static String screen(LetterTables x, int slot, int base) {
        StringBuilder text = new StringBuilder();
        int size = x.at(slot, -1);
        for (int i = 0; i < size; i++) {
            text.append(i == 0 ? "" : " ").append(x.shown(slot, i, base));
        }
        return text.toString();
    }

    static String key(LetterTables x, int language, int slot) {
        StringBuilder text = new StringBuilder();
        int size = x.key(language, slot, -1);
        for (int i = 0; i < size; i++) {
            text.append(i == 0 ? "" : " ").append(x.key(language, slot, i));
        }
        return text.toString();
    }
}
