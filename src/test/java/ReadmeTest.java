import java.io.ByteArrayOutputStream;
import java.io.IOException;
import java.io.PrintStream;
import java.lang.reflect.Method;
import java.lang.reflect.Modifier;
import java.net.URI;
import java.net.URL;
import java.net.URLClassLoader;
import java.nio.file.Files;
import java.nio.file.Path;
import java.util.ArrayList;
import java.util.List;
import java.util.regex.Matcher;
import java.util.regex.Pattern;
import javax.tools.JavaCompiler;
import javax.tools.SimpleJavaFileObject;
import javax.tools.ToolProvider;

/** What README.md shows of the class holds as it stands there, and what it says of the tests. */
public final class ReadmeTest {
    private static final Path README = Path.of("README.md");
    private static final Path TESTS = Path.of("src/test/java");
    private static final Path RUN = Path.of(".ci/run");
    private static final Path CLASSES = Path.of("build/readme");
    private static final Pattern PROMISED = Pattern.compile("(.*);\\s*// (answers|throws) (.*?)(: .*)?");

    /** A piece of the page between two rows of ```, with the line ahead of which it begins. */
    private record Piece(String kind, int line, List<String> lines) {
    }

    private static final class Source extends SimpleJavaFileObject {
        private final String text;

        Source(String name, String text) {
            super(URI.create("string:///" + name + ".java"), Kind.SOURCE);
            this.text = text;
        }

        @Override
        public CharSequence getCharContent(boolean ignored) {
            return text;
        }
    }

    /** What a call on the page answered; asked by the program that is made of its pieces. */
    public static void answered(int line, String call, String want, Object got) {
        Due.same("README.md, line " + line + ": " + call, want, String.valueOf(got));
    }

    public static void main(String[] args) throws Exception {
        List<String> page = Files.readAllLines(README);
        List<Piece> all = pieces(page);
        List<Piece> programs = all.stream().filter(p -> p.kind.equals("java") && p.lines.get(0).contains("class ")).toList();
        List<Piece> calls = all.stream().filter(p -> p.kind.equals("java") && !programs.contains(p)).toList();
        Due.same("programs on the page", "1", "" + programs.size());
        Due.same("pieces of each part", "true", "" + (calls.size() >= 12));
        Source example = new Source("Example", String.join("\n", programs.get(0).lines));
        Source parts = new Source("Parts", partsOf(calls));
        if (compiled(List.of(example, parts))) {
            URL[] urls = {CLASSES.toUri().toURL()};
            try (URLClassLoader loader = new URLClassLoader(urls, ReadmeTest.class.getClassLoader())) {
                printed(loader, all);
                loader.loadClass("Parts").getMethod("all").invoke(null);
            }
        }
        eachCall(calls);
        commands(all);
        tests(String.join("\n", page));
        Due.end();
    }

    private static List<Piece> pieces(List<String> page) {
        List<Piece> all = new ArrayList<>();
        Piece open = null;
        for (int i = 0; i < page.size(); i++) {
            String line = page.get(i);
            if (!line.startsWith("```")) {
                if (open != null) {
                    open.lines.add(line);
                }
            } else if (open == null) {
                open = new Piece(line.substring(3), i + 1, new ArrayList<>());
            } else {
                all.add(open);
                open = null;
            }
        }
        Due.same("the last piece is closed", "null", String.valueOf(open));
        return all;
    }

    /** A program with a method for each piece, that tells what each call answered or threw. */
    private static String partsOf(List<Piece> calls) {
        StringBuilder text = new StringBuilder("public class Parts extends Example {\n");
        StringBuilder all = new StringBuilder("public static void all() {\n");
        for (Piece piece : calls) {
            text.append("static void part").append(piece.line).append("() {\n");
            all.append("part").append(piece.line).append("();\n");
            for (int i = 0; i < piece.lines.size(); i++) {
                text.append(asked(piece.lines.get(i), piece.line + 1 + i)).append("\n");
            }
            text.append("}\n");
        }
        return text.append(all).append("}\n}\n").toString();
    }

    private static String asked(String line, int number) {
        Matcher promised = PROMISED.matcher(line);
        if (!promised.matches()) {
            boolean isPromise = line.contains("// answers") || line.contains("// throws");
            Due.same("README.md, line " + number + " is read", "false", "" + isPromise);
            return line;
        }
        String call = promised.group(1);
        String ahead = "ReadmeTest.answered(" + number + ", \"" + call.replace("\"", "\\\"") + "\", \"" + promised.group(3) + "\", ";
        if (promised.group(2).equals("answers")) {
            return ahead + call + ");";
        }
        return "try { " + call + "; " + ahead + "\"an answer\"); } catch (RuntimeException e) { "
                + ahead + "e.getClass().getSimpleName()); }";
    }

    private static boolean compiled(List<Source> sources) throws IOException {
        JavaCompiler compiler = ToolProvider.getSystemJavaCompiler();
        Due.same("there is a compiler", "true", "" + (compiler != null));
        if (compiler == null) {
            return false;
        }
        Files.createDirectories(CLASSES);
        List<String> options = List.of("-d", CLASSES.toString(), "-cp", System.getProperty("java.class.path"));
        boolean isDone = compiler.getTask(null, null, null, options, null, sources).call();
        Due.same("what README.md shows compiles", "true", "" + isDone);
        return isDone;
    }

    /** What the program on the page prints is the first piece of text behind it. */
    private static void printed(ClassLoader loader, List<Piece> all) throws Exception {
        Piece due = all.stream().filter(p -> p.kind.equals("text")).findFirst().orElseThrow();
        PrintStream before = System.out;
        ByteArrayOutputStream bytes = new ByteArrayOutputStream();
        System.setOut(new PrintStream(bytes, true));
        try {
            loader.loadClass("Example").getMethod("main", String[].class).invoke(null, (Object) new String[0]);
        } finally {
            System.setOut(before);
        }
        Due.same("Example prints", String.join("\n", due.lines), bytes.toString().strip().replace("\r", ""));
    }

    private static void eachCall(List<Piece> calls) {
        String shown = String.join("\n", calls.stream().flatMap(p -> p.lines.stream()).toList());
        for (Method method : LetterTables.class.getDeclaredMethods()) {
            if (Modifier.isPublic(method.getModifiers())) {
                Due.same(method.getName() + " is shown", "true", "" + shown.contains("x." + method.getName() + "("));
            }
        }
    }

    /** The files and classes that the commands on the page name are there. */
    private static void commands(List<Piece> all) {
        List<String> lines = all.stream().filter(p -> p.kind.equals("sh")).flatMap(p -> p.lines.stream()).toList();
        Due.same(".ci/run is told", "true", "" + lines.contains(RUN.toString()));
        Due.same(".ci/run can be run", "true", "" + Files.isExecutable(RUN));
        for (String line : lines) {
            for (String word : line.split("[ :]")) {
                boolean isFound = !word.matches("src/.*|build/main|build/test") || Files.exists(Path.of(word));
                Due.same(word + " is there", "true", "" + isFound);
                boolean isTest = !word.endsWith("Test") || Files.exists(TESTS.resolve(word + ".java"));
                Due.same(word + " is there", "true", "" + isTest);
            }
        }
    }

    /** Whatever can be run of the tests bears the name by which .ci/run finds it, and stands on the page. */
    private static void tests(String page) throws IOException {
        List<Path> files;
        try (var found = Files.list(TESTS)) {
            files = found.sorted().toList();
        }
        int programs = 0;
        for (Path file : files) {
            String name = file.getFileName().toString().replace(".java", "");
            boolean isProgram = Files.readString(file).contains("    public static void main(String[] args)");
            Due.same(name + " is run by .ci/run", "" + isProgram, "" + name.endsWith("Test"));
            boolean isTold = page.contains("`" + name + "`") || !isProgram && !name.endsWith("Edges");
            Due.same(name + " stands on the page", "true", "" + isTold);
            programs += isProgram ? 1 : 0;
        }
        Due.same("tests", "true", "" + (programs >= 10));
        Matcher named = Pattern.compile("`(\\w+(?:Test|Edges))`").matcher(page);
        while (named.find()) {
            Due.same(named.group(1) + " is there", "true", "" + Files.exists(TESTS.resolve(named.group(1) + ".java")));
        }
        String run = Files.readString(RUN);
        Due.same("all of them are compiled", "true", "" + run.contains("src/test/java/*.java"));
        Due.same("all of them are run", "true", "" + run.contains("for file in src/test/java/*Test.java"));
        Due.same("and those told beside", "true", "" + run.contains("for file in \"$shared\"/tests/*.java"));
    }
}
