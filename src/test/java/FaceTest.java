import java.lang.reflect.Constructor;
import java.lang.reflect.Field;
import java.lang.reflect.Member;
import java.lang.reflect.Method;
import java.lang.reflect.Modifier;
import java.nio.file.Files;
import java.nio.file.Path;
import java.util.ArrayList;
import java.util.List;
import java.util.Set;
import java.util.TreeSet;
import java.util.regex.Matcher;
import java.util.regex.Pattern;

/** The face of the class, to the letter, and what of the language's rules can be seen mechanically. */
public final class FaceTest {
    private static final String[] METHODS = {
        "int feed(long,int) IllegalArgumentException,IllegalStateException",
        "void letter(int,int,int,int,int) IndexOutOfBoundsException,IllegalArgumentException",
        "void split(int,int,int) IndexOutOfBoundsException,IllegalArgumentException",
        "void capital(int,int,int) IndexOutOfBoundsException,IllegalArgumentException",
        "void partners(int,int) IndexOutOfBoundsException,IllegalStateException",
        "void weigh(int,int,int,int,int) IndexOutOfBoundsException,IllegalArgumentException",
        "int contract(int,int,int,int,int,int) IndexOutOfBoundsException,IllegalArgumentException,IllegalStateException",
        "int plural(int,int,int,int,int,int,int,int) IndexOutOfBoundsException,IllegalArgumentException,IllegalStateException",
        "int addWord(int) IndexOutOfBoundsException,IllegalStateException",
        "int addRule(int,int,int,int,int) IndexOutOfBoundsException,IllegalArgumentException,IllegalStateException",
        "int save() IllegalStateException",
        "void use(int) IndexOutOfBoundsException",
        "int put(int,int) IndexOutOfBoundsException,IllegalStateException",
        "int clear(int) IndexOutOfBoundsException",
        "int at(int,int) IndexOutOfBoundsException",
        "int form(int,int,int) IndexOutOfBoundsException,IllegalArgumentException,IllegalStateException",
        "boolean looksLike(int,int) IndexOutOfBoundsException,IllegalStateException",
        "int base(int) IndexOutOfBoundsException",
        "int level(int,int,int) IndexOutOfBoundsException,IllegalArgumentException",
        "int shown(int,int,int) IndexOutOfBoundsException,IllegalArgumentException",
        "int bySight(int,int,boolean) IndexOutOfBoundsException",
        "long breaks(int,int) IndexOutOfBoundsException,IllegalArgumentException",
        "int bySense(int,int,boolean) IndexOutOfBoundsException",
        "int compare(int,int,int) IndexOutOfBoundsException,IllegalStateException",
        "int key(int,int,int) IndexOutOfBoundsException,IllegalStateException",
        "int find(int,int,int) IndexOutOfBoundsException,IllegalArgumentException,IllegalStateException",
        "int pattern() IllegalStateException",
        "int match(int,int) IndexOutOfBoundsException,IllegalStateException",
        "int transliterate(int,int,boolean) IndexOutOfBoundsException,IllegalStateException",
        "int classOf(int,int) IndexOutOfBoundsException,IllegalArgumentException",
        "int message(int,int,int,int,int) IndexOutOfBoundsException,IllegalArgumentException,IllegalStateException",
        "long word(int) ",
        "int encode(int) IndexOutOfBoundsException",
        "int decode(int) IndexOutOfBoundsException,IllegalStateException",
    };
    private static final String[] CONSTANTS = {
        "NONE=-1", "LEFT=0", "RIGHT=1", "NUMBER=2", "NEUTRAL=3", "EMBED_LEFT=4", "EMBED_RIGHT=5", "POP=6",
        "ISOLATE_LEFT=7", "ISOLATE_RIGHT=8", "ISOLATE_FIRST=9", "POP_ISOLATE=10", "OTHER=0", "LETTER=1", "MARK=2",
        "BLANK=3", "DIGIT=4", "JOINER=5", "SEAMLESS=6", "ONE=0", "FEW=1", "MANY=2",
    };
    /** What the language leaves out, as it would stand in the text of the program. */
    private static final String[] LEFT_OUT = {
        "->", "::", "\\bimport\\b", "\\bpackage\\b", "\\bcatch\\b", "\\btry\\b", "\\bfinally\\b", "\\bsynchronized\\b",
        "\\bassert\\b", "\\bprotected\\b", "\\bgetClass\\b", "\\bString\\b", "\\bObject\\b", "\\bSystem\\b", "\\bvar\\b",
        "\\bStringBuilder\\b", "\\bequals\\(", "\\bhashCode\\b", "\\btoString\\b", "\\bThread\\b", "Exact\\(",
        "\\bfloat\\b", "\\bdouble\\b", "while \\(true\\)", "for \\(;;\\)", "\\bnew \\w+\\[\\]",
    };

    public static void main(String[] args) throws Exception {
        members();
        words();
        Due.end();
    }

    private static void members() throws Exception {
        Class<?> face = LetterTables.class;
        Due.same("the class", "public final", Modifier.toString(face.getModifiers()));
        Set<String> methods = new TreeSet<>();
        Set<String> names = new TreeSet<>();
        for (Method m : face.getDeclaredMethods()) {
            if (isSeen(m)) {
                methods.add(told(m));
                names.add(m.getName());
            }
        }
        Due.same("the methods", new TreeSet<>(List.of(METHODS)).toString(), methods.toString());
        List<String> constants = new ArrayList<>();
        for (Field f : face.getDeclaredFields()) {
            if (isSeen(f)) {
                Due.same(f.getName(), "public static final", Modifier.toString(f.getModifiers()));
                constants.add(f.getName() + "=" + f.get(null));
            }
        }
        Due.same("the constants", new TreeSet<>(List.of(CONSTANTS)).toString(), new TreeSet<>(constants).toString());
        for (Constructor<?> c : face.getDeclaredConstructors()) {
            Due.same("the constructor", "public LetterTables()", c.toString());
        }
        inside(face, names);
    }

    private static void inside(Class<?> face, Set<String> names) {
        Due.same("classes", "true", Boolean.toString(face.getDeclaredClasses().length <= 11));
        List<Class<?>> all = new ArrayList<>(List.of(face.getDeclaredClasses()));
        for (Class<?> c : all) {
            Due.same(c.getName(), "private static final", Modifier.toString(c.getModifiers()));
            for (Method m : c.getDeclaredMethods()) {
                Due.same(c + " has " + m.getName(), "false", Boolean.toString(names.contains(m.getName())));
            }
        }
        all.add(face);
        for (Class<?> c : all) {
            int fields = 0;
            for (Field f : c.getDeclaredFields()) {
                boolean isStatic = Modifier.isStatic(f.getModifiers());
                fields += isStatic ? 0 : 1;
                Due.same(f + " is a constant", "true", "" + (!isStatic || Modifier.isFinal(f.getModifiers())));
            }
            Due.same(c + " has few fields", "true", Boolean.toString(fields <= 20));
            for (Method m : c.getDeclaredMethods()) {
                boolean isFew = m.getParameterCount() <= 7 || m.getName().equals("plural");
                Due.same(m + " has few parameters", "true", Boolean.toString(isFew));
                boolean isPrivateClash = c == face && !isSeen(m) && names.contains(m.getName());
                Due.same(m + " has a name of its own", "false", Boolean.toString(isPrivateClash));
            }
        }
    }

    private static boolean isSeen(Member m) {
        return !Modifier.isPrivate(m.getModifiers()) && !m.isSynthetic();
    }

    private static String told(Method m) {
        StringBuilder told = new StringBuilder(m.getReturnType() + " " + m.getName() + "(");
        for (int i = 0; i < m.getParameterCount(); i++) {
            told.append(i == 0 ? "" : ",").append(m.getParameterTypes()[i]);
        }
        told.append(") ");
        for (int i = 0; i < m.getExceptionTypes().length; i++) {
            told.append(i == 0 ? "" : ",").append(m.getExceptionTypes()[i].getSimpleName());
        }
        return told.toString();
    }

    private static void words() throws Exception {
        String code = Files.readString(Path.of("src/main/java/LetterTables.java"));
        for (int i = 0; i < code.length(); i++) {
            if (code.charAt(i) > 126) {
                Due.same("sign " + i, "at most 126", "" + (int) code.charAt(i));
            }
        }
        String bare = code.replaceAll("(?s)/\\*.*?\\*/", "").replaceAll("//[^\n]*", "").replaceAll("\"[^\"\n]*\"", "");
        for (String left : LEFT_OUT) {
            Matcher found = Pattern.compile(left).matcher(bare);
            Due.same("'" + left + "' stands there", "false", Boolean.toString(found.find()));
        }
        Matcher thrown = Pattern.compile("throw new (\\w+)\\(").matcher(code);
        Set<String> known = Set.of("IndexOutOfBoundsException", "IllegalArgumentException", "IllegalStateException");
        while (thrown.find()) {
            Due.same("thrown " + thrown.group(1), "true", Boolean.toString(known.contains(thrown.group(1))));
        }
        lengths(bare);
    }

    /** No method stands over more than some sixty lines. */
    private static void lengths(String bare) {
        String[] lines = bare.split("\n");
        int begun = -1;
        int depth = 0;
        int above = 0;
        for (int i = 0; i < lines.length; i++) {
            boolean isMethod = lines[i].matches(" {4,8}[\\w<>\\[\\]].*\\(.*") && !lines[i].contains(";") && begun < 0;
            if (isMethod) {
                begun = i;
                above = depth;
            }
            for (char c : lines[i].replaceAll("'.'", "").toCharArray()) {
                depth += c == '{' ? 1 : c == '}' ? -1 : 0;
            }
            if (begun >= 0 && i > begun && depth == above) {
                Due.same(lines[begun].trim() + " is short", "true", Boolean.toString(i - begun <= 60));
                begun = -1;
            }
        }
        Due.same("the braces are closed", "0", Integer.toString(depth));
    }
}
