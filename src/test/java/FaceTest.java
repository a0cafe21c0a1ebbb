import java.lang.reflect.Constructor;
import java.lang.reflect.Field;
import java.lang.reflect.Member;
import java.lang.reflect.Method;
import java.lang.reflect.Modifier;
import java.nio.file.Files;
import java.nio.file.Path;
import java.util.ArrayList;
import java.util.List;
import java.util.Set;
import java.util.TreeSet;
import java.util.regex.Matcher;
import java.util.regex.Pattern;

/** The face of the class, to the letter. */
public final class FaceTest {
    private static final Path DOC = Path.of("../shared/DOC.md");
    private static final Path CODE = Path.of("src/main/java/LetterTables.java");
    private static final Pattern HEADING = Pattern.compile("Ahead of the calls (.*) the interface says: (.*)");
    private static final String[] METHODS = {
        "int feed(long,int) IllegalArgumentException,IllegalStateException",
        "void letter(int,int,int,int,int) IndexOutOfBoundsException,IllegalArgumentException",
        "void split(int,int,int) IndexOutOfBoundsException,IllegalArgumentException",
        "void capital(int,int,int) IndexOutOfBoundsException,IllegalArgumentException",
        "void partners(int,int) IndexOutOfBoundsException,IllegalStateException",
        "void weigh(int,int,int,int,int) IndexOutOfBoundsException,IllegalArgumentException",
        "int contract(int,int,int,int,int,int) IndexOutOfBoundsException,IllegalArgumentException,IllegalStateException",
        "int plural(int,int,int,int,int,int,int,int) IndexOutOfBoundsException,IllegalArgumentException,IllegalStateException",
        "int addWord(int) IndexOutOfBoundsException,IllegalStateException",
        "int addRule(int,int,int,int,int) IndexOutOfBoundsException,IllegalArgumentException,IllegalStateException",
        "int save() IllegalStateException",
        "void use(int) IndexOutOfBoundsException",
        "int put(int,int) IndexOutOfBoundsException,IllegalStateException",
        "int clear(int) IndexOutOfBoundsException",
        "int at(int,int) IndexOutOfBoundsException",
        "int form(int,int,int) IndexOutOfBoundsException,IllegalArgumentException,IllegalStateException",
        "boolean looksLike(int,int) IndexOutOfBoundsException,IllegalStateException",
        "int base(int) IndexOutOfBoundsException",
        "int level(int,int,int) IndexOutOfBoundsException,IllegalArgumentException",
        "int shown(int,int,int) IndexOutOfBoundsException,IllegalArgumentException",
        "int bySight(int,int,boolean) IndexOutOfBoundsException",
        "long breaks(int,int) IndexOutOfBoundsException,IllegalArgumentException",
        "int bySense(int,int,boolean) IndexOutOfBoundsException",
        "int compare(int,int,int) IndexOutOfBoundsException,IllegalStateException",
        "int key(int,int,int) IndexOutOfBoundsException,IllegalStateException",
        "int find(int,int,int) IndexOutOfBoundsException,IllegalArgumentException,IllegalStateException",
        "int pattern() IllegalStateException",
        "int match(int,int) IndexOutOfBoundsException,IllegalStateException",
        "int transliterate(int,int,boolean) IndexOutOfBoundsException,IllegalStateException",
        "int classOf(int,int) IndexOutOfBoundsException,IllegalArgumentException",
        "int message(int,int,int,int,int) IndexOutOfBoundsException,IllegalArgumentException,IllegalStateException",
        "long word(int) ",
        "int encode(int) IndexOutOfBoundsException",
        "int decode(int) IndexOutOfBoundsException,IllegalStateException",
    };
    private static final String[] CONSTANTS = {
        "NONE=-1", "LEFT=0", "RIGHT=1", "NUMBER=2", "NEUTRAL=3", "EMBED_LEFT=4", "EMBED_RIGHT=5", "POP=6",
        "ISOLATE_LEFT=7", "ISOLATE_RIGHT=8", "ISOLATE_FIRST=9", "POP_ISOLATE=10", "OTHER=0", "LETTER=1", "MARK=2",
        "BLANK=3", "DIGIT=4", "JOINER=5", "SEAMLESS=6", "ONE=0", "FEW=1", "MANY=2",
    };
    public static void main(String[] args) throws Exception {
        members();
        if (Files.exists(DOC)) {
            written(Files.readAllLines(DOC), Files.readString(CODE));
        }
        Due.end();
    }

    /** Each line of the document's face stands in the program, and each call below the words that are told of it. */
    private static void written(List<String> doc, String code) {
        String face = code.replaceAll("\\s+", " ").replace(" {", ";");
        boolean isCode = false;
        for (String line : doc) {
            isCode ^= line.startsWith("```");
            if (isCode && line.startsWith("    ")) {
                Due.same(line.strip(), "true", "" + face.contains(line.strip()));
            }
            Matcher told = HEADING.matcher(line);
            if (told.matches()) {
                for (String call : told.group(1).split(", ")) {
                    Due.same("ahead of " + call, told.group(2), headingOf(code, call.replace("`", "")));
                }
            }
        }
    }

    /** The last words behind ---- that stand ahead of a call. */
    private static String headingOf(String code, String call) {
        String heading = "";
        for (String line : code.split("\n")) {
            if (line.startsWith("    // ---- ")) {
                heading = line.strip().substring(3) + ".";
            }
            if (line.matches("    public \\w+ " + call + "\\(.*")) {
                return heading;
            }
        }
        return "no such call";
    }

    private static void members() throws Exception {
        Class<?> face = LetterTables.class;
        Due.same("the class", "public final", Modifier.toString(face.getModifiers()));
        Set<String> methods = new TreeSet<>();
        for (Method m : face.getDeclaredMethods()) {
            if (isSeen(m)) {
                Due.same(m.getName(), "public", Modifier.toString(m.getModifiers()));
                methods.add(told(m));
            }
        }
        Due.same("the methods", new TreeSet<>(List.of(METHODS)).toString(), methods.toString());
        List<String> constants = new ArrayList<>();
        for (Field f : face.getDeclaredFields()) {
            if (isSeen(f)) {
                Due.same(f.getName(), "public static final", Modifier.toString(f.getModifiers()));
                constants.add(f.getName() + "=" + f.get(null));
            }
        }
        Due.same("the constants", new TreeSet<>(List.of(CONSTANTS)).toString(), new TreeSet<>(constants).toString());
        for (Constructor<?> c : face.getDeclaredConstructors()) {
            Due.same("the constructor", "public LetterTables()", c.toString());
        }
    }

    private static boolean isSeen(Member m) {
        return !Modifier.isPrivate(m.getModifiers()) && !m.isSynthetic();
    }

    private static String told(Method m) {
        StringBuilder told = new StringBuilder(m.getReturnType() + " " + m.getName() + "(");
        for (int i = 0; i < m.getParameterCount(); i++) {
            told.append(i == 0 ? "" : ",").append(m.getParameterTypes()[i]);
        }
        told.append(") ");
        for (int i = 0; i < m.getExceptionTypes().length; i++) {
            told.append(i == 0 ? "" : ",").append(m.getExceptionTypes()[i].getSimpleName());
        }
        return told.toString();
    }
}
