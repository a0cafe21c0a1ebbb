import java.util.Arrays;

/** What the tests share: answers that are due, texts and tapes made shortly. */
final class Due {
    interface Call {
        long go();
    }

    static final Class<? extends RuntimeException> INDEX = IndexOutOfBoundsException.class;
    static final Class<? extends RuntimeException> ARGUMENT = IllegalArgumentException.class;
    static final Class<? extends RuntimeException> STATE = IllegalStateException.class;

    private static int wrong;
    private static int asked;
    private static String about = "";

    private Due() {
    }

    static void is(String what, long want, Call call) {
        String got;
        try {
            got = Long.toString(call.go());
        } catch (RuntimeException e) {
            got = "throws." + e.getClass().getSimpleName();
        }
        same(what, Long.toString(want), got);
    }

    static void thrown(String what, Class<? extends RuntimeException> want, Call call) {
        String got;
        try {
            got = Long.toString(call.go());
        } catch (RuntimeException e) {
            got = "throws." + e.getClass().getSimpleName();
        }
        same(what, "throws." + want.getSimpleName(), got);
    }

    /** Whatever it answers, nothing is thrown. */
    static void goes(String what, Call call) {
        String got = "an answer";
        try {
            call.go();
        } catch (RuntimeException e) {
            got = "throws." + e.getClass().getSimpleName();
        }
        same(what, "an answer", got);
    }

    static void same(String what, String want, String got) {
        asked++;
        if (!want.equals(got)) {
            wrong++;
            System.out.println(about + what + " answered " + got + ", due is " + want);
        }
    }

    /** What the answers that are asked from now on are about; it stands ahead of each wrong one. */
    static void about(String what) {
        about = what;
    }

    static int asked() {
        return asked;
    }

    static void end() {
        System.out.println(asked + " answers asked, " + wrong + " wrong");
        System.exit(wrong == 0 && asked > 0 ? 0 : 1);
    }

    /** A call without an answer, as one that answers 0. */
    static Call quiet(Runnable call) {
        return () -> {
            call.run();
            return 0;
        };
    }

    static void write(LetterTables x, int slot, int... letters) {
        x.clear(slot);
        for (int letter : letters) {
            x.put(slot, letter);
        }
    }

    static int[] row(int... letters) {
        return letters;
    }

    /** A text of so many letters, of which only the last ones are others. */
    static int[] of(int size, int letter, int... last) {
        int[] all = new int[size];
        Arrays.fill(all, letter);
        System.arraycopy(last, 0, all, size - last.length, last.length);
        return all;
    }

    static String read(LetterTables x, int slot) {
        StringBuilder text = new StringBuilder();
        int size = x.at(slot, -1);
        for (int i = 0; i < size; i++) {
            text.append(i == 0 ? "" : " ").append(x.at(slot, i));
        }
        return text.toString();
    }

    /** Eight bytes at once: an object is used for 512 calls alone. */
    static void feed(LetterTables x, String text) {
        for (int i = 0; i < text.length(); i += 8) {
            int count = Math.min(8, text.length() - i);
            long bytes = 0;
            for (int k = count - 1; k >= 0; k--) {
                bytes = bytes << 8 | text.charAt(i + k);
            }
            x.feed(bytes, count);
        }
    }

    static String out(LetterTables x, int size) {
        StringBuilder text = new StringBuilder();
        long word = 0;
        for (int i = 0; i < size; i++) {
            word = i % 8 == 0 ? x.word(i / 8) : word >>> 8;
            text.append((char) (word & 255));
        }
        return text.toString();
    }

    static String levels(LetterTables x, int slot, int base) {
        StringBuilder text = new StringBuilder();
        int size = x.at(slot, -1);
        for (int i = 0; i < size; i++) {
            text.append(i == 0 ? "" : " ").append(x.level(slot, i, base));
        }
        return text.toString();
    }

    static String screen(LetterTables x, int slot, int base) {
        StringBuilder text = new StringBuilder();
        int size = x.at(slot, -1);
        for (int i = 0; i < size; i++) {
            text.append(i == 0 ? "" : " ").append(x.shown(slot, i, base));
        }
        return text.toString();
    }

    static String key(LetterTables x, int language, int slot) {
        StringBuilder text = new StringBuilder();
        int size = x.key(language, slot, -1);
        for (int i = 0; i < size; i++) {
            text.append(i == 0 ? "" : " ").append(x.key(language, slot, i));
        }
        return text.toString();
    }
}
