import java.io.IOException;
import java.nio.file.Files;
import java.nio.file.Path;
import java.util.ArrayList;
import java.util.List;

/** The sentences of the document, each with the test of it alone; and whether there is one for each of them. */
final class Said {
    private static final Path DOC = Path.of("../shared/DOC.md");
    /** Parts of the document that say nothing that a call could break. */
    private static final List<String> LEFT_OUT = List.of("LetterTables", "The public face", "Not promised");

    private record Sentence(String section, String words) {
    }

    private static final List<Sentence> QUOTED = new ArrayList<>();

    private Said() {
    }

    /** A sentence that names a boundary case, by some words of it that stand side by side, and the test of it. */
    static void so(String section, String words, Runnable test) {
        QUOTED.add(new Sentence(section, words));
        String about = section + ", '" + words + "': ";
        Due.about(about);
        int before = Due.asked();
        try {
            test.run();
        } catch (RuntimeException e) {
            Due.same("the test on its way", "nothing thrown", e.toString());
        }
        Due.same("the test asks something", "true", Boolean.toString(Due.asked() > before));
        Due.about("");
    }

    /** Sentences that name no boundary case, or only in what is said behind them. */
    static void plain(String section, String... words) {
        for (String one : words) {
            QUOTED.add(new Sentence(section, one));
        }
    }

    /** Each sentence of the document is quoted, and what is quoted stands there. */
    static void covers() throws IOException {
        if (!Files.exists(DOC)) {
            System.out.println("there is no " + DOC + ": the sentences are not looked up");
            return;
        }
        List<Sentence> sentences = sentences();
        for (Sentence sentence : sentences) {
            boolean isQuoted = QUOTED.stream().anyMatch(quote -> stands(quote, sentence));
            Due.same("a test for " + sentence, "true", Boolean.toString(isQuoted));
        }
        for (Sentence quote : QUOTED) {
            boolean isThere = sentences.stream().anyMatch(sentence -> stands(quote, sentence));
            Due.same("in the document there is " + quote, "true", Boolean.toString(isThere));
        }
    }

    private static boolean stands(Sentence quote, Sentence in) {
        return quote.section.equals(in.section) && in.words.contains(quote.words);
    }

    private static List<Sentence> sentences() throws IOException {
        List<Sentence> all = new ArrayList<>();
        String section = "";
        boolean isCode = false;
        for (String line : Files.readAllLines(DOC)) {
            isCode ^= line.startsWith("```");
            if (line.startsWith("#")) {
                section = line.replaceFirst("#+ ", "").replaceFirst("Promise (\\d+):.*", "$1");
            } else if (!isCode && !line.isBlank() && !LEFT_OUT.contains(section)) {
                for (String words : line.replace("`", "").replaceFirst("^- ", "").split("(?<=[.;]) ")) {
                    all.add(new Sentence(section, words));
                }
            }
        }
        return all;
    }
}
