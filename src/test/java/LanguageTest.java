import java.io.IOException;
import java.lang.reflect.Constructor;
import java.lang.reflect.Field;
import java.lang.reflect.Method;
import java.lang.reflect.Modifier;
import java.nio.file.Files;
import java.nio.file.Path;
import java.util.Set;
import java.util.TreeSet;
import java.util.regex.Matcher;
import java.util.regex.Pattern;

/** The public face, and those rules of LANGUAGE.md that the text of the program shows. */
final class LanguageTest {
    private static final String FACE = "back(int) bought(int,int) count(int) cross(int,int) end(int) fact(int) "
            + "feed(int,int,int,int,int) fewest(int,int) follows(int,int) gain(int) image(int) isTrue(int) knows(int,int) "
            + "land() least(int,int) look(int,int) midnight() next(int) opposite(int,int) person(int,int) place(int) "
            + "plan(int,int) possible(int,int) rule() run(int,int) saying() seed(int) sets(int) shown(int) so(int,int) "
            + "tell(int,int,int) trial(int,boolean) undo() walk(int,int) way(int,int) when(int,int) years(int,int,int)";

    public static void main(String[] args) throws IOException {
        face();
        String source = Files.readString(Path.of("src/main/java/TruthBridge.java"));
        for (int i = 0; i < source.length(); i++) {
            if (source.charAt(i) > 126 || source.charAt(i) < 32 && source.charAt(i) != '\n') {
                Check.due("a sign beyond ASCII at " + i, source.charAt(i), 0);
            }
        }
        String code = bare(source);
        words(code);
        library(code);
        names();
        sizes(source);
        Check.finish("LanguageTest");
    }

    private static void face() {
        Class<TruthBridge> c = TruthBridge.class;
        Check.due("public and final", c.getModifiers(), Modifier.PUBLIC | Modifier.FINAL);
        Set<String> found = new TreeSet<>();
        for (Method m : c.getDeclaredMethods()) {
            if (Modifier.isPrivate(m.getModifiers()) || m.isSynthetic()) {
                continue;
            }
            Check.due(m.getName() + " is public", m.getModifiers(), Modifier.PUBLIC);
            Check.due(m.getName() + " answers an int", m.getReturnType() == int.class ? 1 : 0, 1);
            String text = m.toString();
            found.add(m.getName() + text.substring(text.indexOf('(')));
        }
        Check.due("the face: " + found, found.equals(new TreeSet<>(Set.of(FACE.split(" ")))) ? 1 : 0, 1);
        for (Constructor<?> k : c.getDeclaredConstructors()) {
            Check.due("the constructor", k.getModifiers() == Modifier.PUBLIC && k.getParameterCount() == 0 ? 1 : 0, 1);
        }
        for (Field f : c.getDeclaredFields()) {
            boolean open = !Modifier.isPrivate(f.getModifiers());
            Check.due("field " + f.getName(), open ? 1 : 0, f.getName().equals("NONE") ? 1 : 0);
        }
    }

    /** Without comments, and without what stands in texts. */
    private static String bare(String source) {
        return source.replaceAll("(?s)/\\*.*?\\*/", "").replaceAll("//[^\n]*", "").replaceAll("\"[^\"\n]*\"", "\"\"");
    }

    private static void none(String what, String code, String pattern) {
        Matcher m = Pattern.compile(pattern).matcher(code);
        Check.due(what + (m.find() ? ": " + m.group() : ""), m.reset().find() ? 1 : 0, 0);
    }

    private static void words(String code) {
        none("rule 1", code, "\\bprotected\\b|\\bpackage\\b");
        none("rule 2", code, "->|::");
        none("rule 5", code, "\\bstatic\\s*\\{");
        none("rule 6", code, "\\b(throw|throws|try|catch|synchronized|assert|hashCode|finally)\\b");
        none("rule 10", code, "\"\"\\s*\\+|\\+\\s*\"\"");
        none("rule 13", code, "\\b(System|Thread|Random|File|Runtime)\\b");
        none("loops without an end", code, "while\\s*\\(\\s*true|for\\s*\\(\\s*;\\s*;");
        Matcher m = Pattern.compile("\\bstatic (?!final)(?!boolean |int |long )").matcher(code);
        Check.due("a static field that is not final", m.find() ? 1 : 0, 0);
    }

    private static void library(String code) {
        Matcher m = Pattern.compile("import ([^;]*);").matcher(code);
        while (m.find()) {
            Check.due("import " + m.group(1), m.group(1).equals("java.util.Arrays") ? 1 : 0, 1);
        }
        m = Pattern.compile("\\b(Arrays|Math|Integer|Long)\\.(\\w+)").matcher(code);
        Set<String> allowed = Set.of("Arrays.fill", "Arrays.copyOf", "Math.max", "Math.min", "Integer.bitCount",
                "Long.bitCount");
        while (m.find()) {
            Check.due(m.group(), allowed.contains(m.group()) ? 1 : 0, 1);
        }
    }

    private static void names() {
        Set<String> face = new TreeSet<>();
        for (String one : FACE.split(" ")) {
            face.add(one.substring(0, one.indexOf('(')));
        }
        int classes = 1;
        for (Class<?> c : TruthBridge.class.getDeclaredClasses()) {
            classes++;
            Check.due(c.getName() + " is static", Modifier.isStatic(c.getModifiers()) ? 1 : 0, 1);
            for (Method m : c.getDeclaredMethods()) {
                Check.due(m.getName() + " is a name of the face", face.contains(m.getName()) ? 1 : 0, 0);
                Check.due(m.getName() + " takes more than seven", m.getParameterCount() > 7 ? 1 : 0, 0);
            }
            int fields = 0;
            for (Field f : c.getDeclaredFields()) {
                fields += Modifier.isStatic(f.getModifiers()) ? 0 : 1;
            }
            Check.due(c.getName() + " has more than twenty fields", fields > 20 ? 1 : 0, 0);
        }
        Check.due("more than twelve classes", classes > 12 ? 1 : 0, 0);
    }

    private static void sizes(String source) {
        String[] lines = source.split("\n");
        for (int i = 0; i < lines.length; i++) {
            if (lines[i].matches("        \\S.*\\) \\{|    (public|private) [^=]*\\) \\{")) {
                String indent = lines[i].substring(0, lines[i].indexOf(lines[i].trim()));
                int end = i + 1;
                while (end < lines.length && !lines[end].equals(indent + "}")) {
                    end++;
                }
                Check.due("a method of over sixty lines at line " + (i + 1), end - i > 60 ? 1 : 0, 0);
            }
        }
    }
}
