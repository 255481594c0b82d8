import java.io.IOException;
import java.nio.file.Files;
import java.nio.file.Path;
import java.util.regex.Matcher;
import java.util.regex.Pattern;

/** Those rules of LANGUAGE.md, and of the face, that can be seen in the text of the class. */
public final class LanguageTest {
    private static final String[] FORBIDDEN = {"->", "::", "\\bcatch\\b", "\\btry\\b", "\\bfinally\\b",
        "\\bsynchronized\\b", "\\bassert\\b", "\\binstanceof\\b", "\\bnative\\b", "\\bvolatile\\b", "\\bSystem\\.(?!arraycopy)",
        "\\bThread\\b", "\\bRandom\\b", "\\bObject\\b", "\\bException\\b", "\\bvar\\b", "\\bstatic\\s*\\{", "Exact\\b",
        "\\bpackage\\b", "\\bprotected\\b", "\"\\s*\\+|\\+\\s*\"", "\\bnew int\\[\\]\\s*\\{", "@"};
    private static final String[] FACE = ("feed end house fault bed owl sound now lend hush let shout hours undo hears "
        + "would when loud spots spotAt next keen keenLeast keenMost best bestAt code codeAt duel duelAt worth note "
        + "byteAt drawn odds book told sentence said image restore count").split(" ");
    private static final Checks c = new Checks("LanguageTest");

    public static void main(String[] args) throws IOException {
        String text = Files.readString(Path.of("src/main/java/OwlsLent.java"));
        String code = text.replaceAll("(?s)/\\*.*?\\*/", "").replaceAll("//[^\n]*", "");
        for (String word : FORBIDDEN) {
            c.due("'" + word + "' in the class", Pattern.compile(word).matcher(code).find(), false);
        }
        c.due("signs above 127", text.chars().anyMatch(s -> s > 127), false);
        c.due("imports", count(code, "(?m)^import "), 1);
        c.due("the one import", count(code, "import java\\.util\\.NoSuchElementException;"), 1);
        c.due("classes, twelve at most", count(code, "\\bclass\\b") <= 12, true);
        c.due("statics that are not final", count(code, "\\bstatic (?!final)[\\w\\[\\]<>]+ \\w+\\s*[=;]"), 0);
        c.due("the only throws", count(code, "\\bthrow new NoSuchElementException\\("), count(code, "\\bthrow\\b"));
        publicMembers();
        privateNames(code);
        makesNothing(code);
        methodLengths(code);
        selfCalls(code);
        c.end();
    }

    private static int count(String code, String pattern) {
        Matcher m = Pattern.compile(pattern).matcher(code);
        int n = 0;
        while (m.find()) {
            n++;
        }
        return n;
    }

    private static void publicMembers() {
        int methods = 0;
        for (java.lang.reflect.Method m : OwlsLent.class.getDeclaredMethods()) {
            boolean isPublic = java.lang.reflect.Modifier.isPublic(m.getModifiers());
            boolean isPrivate = java.lang.reflect.Modifier.isPrivate(m.getModifiers());
            boolean isFace = java.util.Arrays.asList(FACE).contains(m.getName());
            c.due(m.getName() + " is public, if it is of the face, else private", isFace ? isPublic : isPrivate, true);
            methods += isPublic ? 1 : 0;
        }
        c.due("public methods", methods, FACE.length);
        int fields = 0;
        for (java.lang.reflect.Field f : OwlsLent.class.getDeclaredFields()) {
            boolean isPrivate = java.lang.reflect.Modifier.isPrivate(f.getModifiers());
            c.due(f.getName() + " is private", isPrivate, !f.getName().equals("NONE"));
            fields += java.lang.reflect.Modifier.isStatic(f.getModifiers()) ? 0 : 1;
        }
        c.due("some twenty fields at most", fields <= 20, true);
        c.due("constructors", OwlsLent.class.getConstructors().length, 1);
    }

    private static void privateNames(String code) {
        for (String name : FACE) {
            int declared = count(code, "\\b(?:int|long|boolean|void|String|\\w+\\[\\]) " + name + "\\(");
            c.due("methods of the name " + name, declared, 1);
        }
    }

    /** Objects are made in constructors and with fields alone, so that no call makes one. */
    private static void makesNothing(String code) {
        int deep = 0;
        for (String line : code.split("\n")) {
            if (line.contains("new ") && !line.contains("throw new")) {
                boolean field = line.strip().startsWith("private ") && line.contains(" final ");
                boolean loop = line.contains("] = new ") || line.contains("bytes = new ");
                c.due("made with a field or in a constructor: " + line.strip(), field || loop, true);
                deep += loop && !field ? 1 : 0;
            }
        }
        c.due("made in constructors", deep, 3);
    }

    private static void methodLengths(String code) {
        int from = -1;
        String[] lines = code.split("\n");
        for (int i = 0; i < lines.length; i++) {
            if (lines[i].matches("( {4}| {8})[\\w\\[\\] ]+\\([^;]*\\{") && !lines[i].contains(" class ")) {
                from = i;
            } else if (from >= 0 && lines[i].matches("( {4}| {8})\\}")) {
                c.due("a method of 60 lines at most: " + lines[from].strip(), i - from <= 60, true);
                from = -1;
            }
        }
    }

    /** Rule 8: what calls itself is private and static, or one of the private methods that call one another. */
    private static void selfCalls(String code) {
        Matcher m = Pattern.compile("(?ms)^( {4}| {8})(?! )([\\w\\[\\] ]*?)(\\w+)\\(([^;{}]*?)\\)[\\w ]* \\{\n(.*?)^\\1\\}").matcher(code);
        int methods = 0;
        int own = 0;
        while (m.find()) {
            methods++;
            c.due("parameters of " + m.group(3) + ", seven at most", m.group(4).split(",").length <= 7, true);
            if (count(m.group(5), "(?<![\\w.])" + m.group(3) + "\\(") > 0) {
                own++;
                boolean mutual = m.group(3).equals("readOne");
                String kind = mutual ? "private" : "private static";
                c.due(m.group(3) + " calls itself, and is " + kind, m.group(2).startsWith(kind), true);
            }
        }
        c.due("methods that were looked at", methods > 100, true);
        c.due("methods that call themselves", own, 3);
    }
}
