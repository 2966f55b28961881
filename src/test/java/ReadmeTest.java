import java.io.IOException;
import java.lang.reflect.InvocationTargetException;
import java.lang.reflect.Method;
import java.lang.reflect.Modifier;
import java.nio.file.Files;
import java.nio.file.Path;
import java.util.TreeMap;
import java.util.TreeSet;
import java.util.regex.Matcher;
import java.util.regex.Pattern;

/** The calls in README.md, one behind the other, must answer what stands behind them there. */
public final class ReadmeTest {
    private static final String MAKE = "Bramblehall hall = new Bramblehall();";
    private static final Pattern LINE = Pattern.compile("hall\\.(\\w+)\\((.*?)\\); +// (throws \\w+|\\S+?)(?:: .*)?");

    private static final TreeMap<String, Method> FACE = new TreeMap<>();
    private static final TreeSet<String> SHOWN = new TreeSet<>();

    public static void main(String[] args) throws IOException, IllegalAccessException {
        for (Method m : Bramblehall.class.getDeclaredMethods()) {
            if (Modifier.isPublic(m.getModifiers())) {
                FACE.put(m.getName(), m);
            }
        }
        runAll(Files.readString(Path.of("README.md")));
        Due.say("every call of the face is shown", FACE.keySet().toString(), SHOWN.toString());
        Due.end();
    }

    private static void runAll(String text) throws IllegalAccessException {
        Bramblehall hall = null;
        boolean inside = false;
        for (String line : text.split("\n")) {
            if (line.startsWith("```")) {
                inside = line.equals("```java");
            } else if (inside && line.equals(MAKE)) {
                hall = new Bramblehall();
            } else if (inside) {
                Matcher m = LINE.matcher(line);
                boolean fits = m.matches();
                Due.say("can be read: " + line, "true", String.valueOf(fits));
                if (fits) {
                    SHOWN.add(m.group(1));
                    Due.say(line, m.group(3), answer(hall, FACE.get(m.group(1)), m.group(2)));
                }
            }
        }
    }

    private static String answer(Bramblehall hall, Method method, String given) throws IllegalAccessException {
        Class<?>[] types = method.getParameterTypes();
        String[] texts = given.isEmpty() ? new String[0] : given.split(", ");
        Object[] values = new Object[types.length];
        for (int i = 0; i < values.length; i++) {
            values[i] = types[i] == int.class ? (Object) Integer.valueOf(texts[i])
                    : types[i] == char.class ? (Object) texts[i].charAt(1) : (Object) Boolean.valueOf(texts[i]);
        }
        try {
            return String.valueOf(method.invoke(hall, values));
        } catch (InvocationTargetException e) {
            return "throws " + e.getCause().getClass().getSimpleName();
        }
    }
}
