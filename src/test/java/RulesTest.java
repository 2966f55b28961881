import java.io.IOException;
import java.lang.reflect.Constructor;
import java.lang.reflect.Method;
import java.lang.reflect.Modifier;
import java.nio.file.Files;
import java.nio.file.Path;
import java.util.ArrayList;
import java.util.List;
import java.util.TreeSet;
import java.util.regex.Matcher;
import java.util.regex.Pattern;

/** The face, as the document has it, and those rules of the language that can be read off the text. */
public final class RulesTest {
    private static final int MOST_LINES = 60;
    private static final int MOST_PARAMETERS = 7;
    private static final int MOST_CLASSES = 12;
    private static final int MOST_FIELDS = 20;

    public static void main(String[] args) throws IOException {
        String doc = Files.readString(Path.of("../shared/DOC.md"));
        String source = Files.readString(Path.of("src/main/java/Bramblehall.java"));
        face(doc);
        classes();
        words(source);
        lengths(source);
        Due.end();
    }

    private static void holds(String what, boolean is) {
        Due.say(what, "true", String.valueOf(is));
    }

    /** A method in one line, with the plain names of its types. */
    private static String line(Method m) {
        StringBuilder text = new StringBuilder(m.getReturnType().getSimpleName()).append(' ').append(m.getName());
        text.append('(');
        for (Class<?> type : m.getParameterTypes()) {
            text.append(type.getSimpleName()).append(' ');
        }
        text.append(')');
        for (Class<?> type : m.getExceptionTypes()) {
            text.append(' ').append(type.getSimpleName());
        }
        return text.toString();
    }

    private static TreeSet<String> dueFace(String doc) {
        String block = doc.substring(doc.indexOf("```java"), doc.indexOf("```", doc.indexOf("```java") + 3));
        Matcher m = Pattern.compile("public (\\w+) (\\w+)\\((.*?)\\)(?: throws (.*?))?;").matcher(block);
        TreeSet<String> found = new TreeSet<>();
        while (m.find()) {
            StringBuilder text = new StringBuilder(m.group(1)).append(' ').append(m.group(2)).append('(');
            for (String parameter : m.group(3).split(", ")) {
                text.append(parameter.isEmpty() ? "" : parameter.split(" ")[0] + " ");
            }
            text.append(')');
            for (String thrown : m.group(4) == null ? new String[0] : m.group(4).split(", ")) {
                text.append(' ').append(thrown);
            }
            found.add(text.toString());
        }
        return found;
    }

    private static void face(String doc) {
        TreeSet<String> has = new TreeSet<>();
        TreeSet<String> names = new TreeSet<>();
        for (Method m : Bramblehall.class.getDeclaredMethods()) {
            if (Modifier.isPublic(m.getModifiers())) {
                has.add(line(m));
                names.add(m.getName());
            } else if (!m.isSynthetic()) {
                holds("1: private " + m.getName(), Modifier.isPrivate(m.getModifiers()));
            }
        }
        Due.say("1: the face", dueFace(doc).toString(), has.toString());
        holds("1: it has 58 methods", has.size() == 58);
        holds("1: final", Modifier.isFinal(Bramblehall.class.getModifiers()));
        Constructor<?>[] made = Bramblehall.class.getDeclaredConstructors();
        holds("1: one constructor", made.length == 1 && Modifier.isPublic(made[0].getModifiers())
                && made[0].getParameterCount() == 0);
        for (Class<?> inner : Bramblehall.class.getDeclaredClasses()) {
            for (Method m : inner.getDeclaredMethods()) {
                holds("1: " + inner.getSimpleName() + "." + m.getName() + " bears no public name",
                        !names.contains(m.getName()));
            }
        }
        for (Method m : Bramblehall.class.getDeclaredMethods()) {
            holds("1: " + m.getName() + " is private or of the face",
                    Modifier.isPublic(m.getModifiers()) || m.isSynthetic() || !names.contains(m.getName()));
        }
    }

    private static void classes() {
        List<Class<?>> all = new ArrayList<>(List.of(Bramblehall.class.getDeclaredClasses()));
        for (Class<?> inner : all) {
            holds("2: " + inner.getSimpleName(), Modifier.isStatic(inner.getModifiers())
                    && Modifier.isPrivate(inner.getModifiers()) && inner.getDeclaredClasses().length == 0);
        }
        all.add(Bramblehall.class);
        holds("11: classes", all.size() <= MOST_CLASSES);
        for (Class<?> c : all) {
            int fields = 0;
            for (java.lang.reflect.Field f : c.getDeclaredFields()) {
                boolean constant = Modifier.isStatic(f.getModifiers());
                fields += constant ? 0 : 1;
                holds("5: " + f.getName(), !constant || Modifier.isFinal(f.getModifiers()) && !f.getType().isArray());
                holds("1: " + f.getName() + " is private", Modifier.isPrivate(f.getModifiers()));
            }
            holds("11: fields of " + c.getSimpleName(), fields <= MOST_FIELDS);
            for (Method m : c.getDeclaredMethods()) {
                holds("11: parameters of " + m.getName(), m.getParameterCount() <= MOST_PARAMETERS);
            }
        }
    }

    private static void words(String source) {
        String code = source.replaceAll("(?s)/\\*.*?\\*/", "").replaceAll("//[^\n]*", "");
        String[] forbidden = {"->", "::", "catch", "try", "finally", "synchronized", "assert", "package", "instanceof",
            "static \\{", "Exact", "System\\.(?!arraycopy)", "Math\\.(?!max|min|abs)", "Integer\\.(?!bitCount)",
            "Long\\.", "Arrays", "Random", "Thread", "String\\.", "getMessage", "hashCode", "equals", "toString",
            "var ", "record", "enum", "interface", "\\bList", "Object", "goto", "native", "volatile", "transient"};
        for (String word : forbidden) {
            holds("4: " + word, !Pattern.compile(word).matcher(code).find());
        }
        Matcher imports = Pattern.compile("import ([^;]*);").matcher(code);
        while (imports.find()) {
            Due.say("4: import", "java.util.NoSuchElementException", imports.group(1));
        }
        holds("5: static means final or a method or a class", !Pattern.compile(
                "static (?!final)[\\w\\[\\]]+ \\w+\\s*[;=]").matcher(code).find());
        Matcher thrown = Pattern.compile("throw ([^;]*);").matcher(code);
        while (thrown.find()) {
            holds("6: throw " + thrown.group(1), thrown.group(1).matches("new \\w+\\(\\)"));
        }
        for (int i = 0; i < source.length(); i++) {
            if (source.charAt(i) > 126) {
                holds("3: sign at " + i, false);
            }
        }
        Matcher whiles = Pattern.compile("while \\(").matcher(code);
        holds("9: loops are counted", !whiles.find());
        holds("9: loops have a bound", !code.contains("for (;;")
                && !Pattern.compile("for \\([^;]*; ;").matcher(code).find());
    }

    /** By the indent: a method of the face begins at four blanks, one of a class inside at eight. */
    private static void lengths(String source) {
        String[] lines = source.split("\n");
        for (int i = 0; i < lines.length; i++) {
            boolean opens = lines[i].matches("( {4}| {8})[a-z].*\\) .*\\{") && !lines[i].contains(" class ");
            if (opens) {
                String indent = lines[i].substring(0, lines[i].length() - lines[i].stripLeading().length());
                int end = i;
                while (end < lines.length && !lines[end].equals(indent + "}")) {
                    end++;
                }
                holds("11: lines of " + lines[i].strip(), end - i <= MOST_LINES);
            }
            holds("a line of at most 120 signs: " + (i + 1), lines[i].length() <= 120);
        }
    }
}
