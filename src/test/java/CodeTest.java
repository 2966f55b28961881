import java.io.ByteArrayInputStream;
import java.io.DataInputStream;
import java.io.IOException;
import java.io.InputStream;
import java.util.Set;
import java.util.TreeMap;
import java.util.TreeSet;

/**
 * Those rules of ../shared/LANGUAGE.md that can be read off the compiled classes: calls, their depth, what is made.
 * The hall does with less than the rules leave: it catches nothing, has no tables of its class, and makes in
 * constructors alone; whoever needs more changes this test with it.
 */
public final class CodeTest {
    private static final int MOST_DEEP = 8;
    private static final Set<String> LIBRARY = Set.of("java/lang/Integer.bitCount", "java/lang/Math.max",
            "java/lang/Math.min", "java/lang/String.length", "java/lang/String.charAt", "java/lang/String.indexOf",
            "java/lang/System.arraycopy", "java/lang/Object.<init>");
    private static final Set<String> EXCEPTIONS = Set.of("java/lang/IllegalStateException",
            "java/lang/IllegalArgumentException", "java/lang/IndexOutOfBoundsException",
            "java/lang/ArithmeticException", "java/lang/UnsupportedOperationException",
            "java/util/NoSuchElementException");
    // How many bytes each operation takes, from 0 to 201; 0 for those whose length the operation itself tells.
    private static final String LENGTHS = "1".repeat(16) + "2323322222" + "1".repeat(28) + "22222" + "1".repeat(73)
            + "3" + "1".repeat(20) + "3".repeat(16) + "2" + "00" + "111111" + "3333333" + "55" + "3231133110433" + "55";

    /** Every method, by class and name, with the methods of the hall that it calls. */
    private static final TreeMap<String, TreeSet<String>> CALLS = new TreeMap<>();
    private static final TreeSet<String> PRIVATE_STATIC = new TreeSet<>();

    private final String name;
    private final Object[] constants;

    private CodeTest(String name, Object[] constants) {
        this.name = name;
        this.constants = constants;
    }

    public static void main(String[] args) throws IOException {
        holds("the table of operations is whole", LENGTHS.length() == 202);
        read("Bramblehall");
        for (Class<?> inner : Bramblehall.class.getDeclaredClasses()) {
            read(inner.getName());
        }
        for (String method : CALLS.keySet()) {
            CALLS.get(method).retainAll(CALLS.keySet());
        }
        for (String method : CALLS.keySet()) {
            depth(method);
        }
        Due.end();
    }

    private static void holds(String what, boolean is) {
        Due.say(what, "true", String.valueOf(is));
    }

    private static void depth(String method) {
        int deep = deepest(method, new TreeSet<>());
        holds("11: " + method + " goes " + deep + " deep", deep <= MOST_DEEP);
    }

    /** A method that calls itself counts once; no two call one another. */
    private static int deepest(String method, TreeSet<String> open) {
        int found = 1;
        open.add(method);
        for (String called : CALLS.get(method)) {
            if (called.equals(method)) {
                holds("8: " + method + " calls itself, private and static", PRIVATE_STATIC.contains(method));
            } else if (open.contains(called)) {
                holds("8: " + method + " and " + called + " call one another", false);
            } else {
                found = Math.max(found, 1 + deepest(called, open));
            }
        }
        open.remove(method);
        return found;
    }

    private static void read(String className) throws IOException {
        try (InputStream file = CodeTest.class.getResourceAsStream("/" + className + ".class")) {
            DataInputStream in = new DataInputStream(new ByteArrayInputStream(file.readAllBytes()));
            in.skipBytes(8);
            CodeTest reader = new CodeTest(className, readConstants(in));
            in.skipBytes(6);
            in.skipBytes(2 * in.readUnsignedShort());
            reader.readMembers(in);
            reader.readMembers(in);
        }
    }

    /** A text, the numbers of other constants, or nothing of interest. */
    private static Object[] readConstants(DataInputStream in) throws IOException {
        Object[] found = new Object[in.readUnsignedShort()];
        for (int i = 1; i < found.length; i++) {
            int tag = in.readUnsignedByte();
            switch (tag) {
                case 1 -> found[i] = in.readUTF();
                case 7, 8, 16, 19, 20 -> found[i] = new int[] {in.readUnsignedShort()};
                case 9, 10, 11, 12, 17, 18 -> found[i] = new int[] {in.readUnsignedShort(), in.readUnsignedShort()};
                case 15 -> in.skipBytes(3);
                case 5, 6 -> {
                    in.skipBytes(8);
                    i++;
                }
                default -> in.skipBytes(4);
            }
        }
        return found;
    }

    private String text(int constant) {
        return (String) constants[constant];
    }

    private int[] pair(int constant) {
        return (int[]) constants[constant];
    }

    private String classAt(int constant) {
        return text(pair(constant)[0]);
    }

    private String methodAt(int constant) {
        int[] reference = pair(constant);
        return classAt(reference[0]) + "." + text(pair(reference[1])[0]);
    }

    private void readMembers(DataInputStream in) throws IOException {
        int members = in.readUnsignedShort();
        for (int i = 0; i < members; i++) {
            int access = in.readUnsignedShort();
            String member = name + "." + text(in.readUnsignedShort());
            in.skipBytes(2);
            int attributes = in.readUnsignedShort();
            for (int j = 0; j < attributes; j++) {
                String attribute = text(in.readUnsignedShort());
                byte[] content = new byte[in.readInt()];
                in.readFully(content);
                if (attribute.equals("Code")) {
                    if ((access & 0x000a) == 0x000a) {
                        PRIVATE_STATIC.add(member);
                    }
                    readCode(member, new DataInputStream(new ByteArrayInputStream(content)));
                }
            }
        }
    }

    private void readCode(String method, DataInputStream in) throws IOException {
        holds("a name of its own: " + method, CALLS.put(method, new TreeSet<>()) == null);
        holds("5: " + method + " is no static block", !method.endsWith("<clinit>"));
        in.skipBytes(4);
        byte[] code = new byte[in.readInt()];
        in.readFully(code);
        Due.say("6: " + method + " catches nothing", "0", String.valueOf(in.readUnsignedShort()));
        int at = 0;
        while (at < code.length) {
            int operation = code[at] & 255;
            look(method, operation, code, at);
            at += lengthOf(code, at);
        }
        Due.say(method + " was read to its end", String.valueOf(code.length), String.valueOf(at));
    }

    private static int number(byte[] code, int at) {
        return code[at] << 24 | (code[at + 1] & 255) << 16 | (code[at + 2] & 255) << 8 | code[at + 3] & 255;
    }

    private static int lengthOf(byte[] code, int at) {
        int operation = code[at] & 255;
        int aligned = (at + 4) / 4 * 4;
        switch (operation) {
            case 170:
                return aligned + 12 + 4 * (number(code, aligned + 8) - number(code, aligned + 4) + 1) - at;
            case 171:
                return aligned + 8 + 8 * number(code, aligned + 4) - at;
            case 196:
                return (code[at + 1] & 255) == 132 ? 6 : 4;
            default:
                return LENGTHS.charAt(operation) - '0';
        }
    }

    private void look(String method, int operation, byte[] code, int at) {
        boolean makes = method.endsWith("<init>");
        switch (operation) {
            case 182, 183, 184 -> called(method, methodAt((code[at + 1] & 255) << 8 | code[at + 2] & 255));
            case 185, 186 -> holds("4: " + method + " calls by interface or dynamically", false);
            case 187 -> {
                String made = classAt((code[at + 1] & 255) << 8 | code[at + 2] & 255);
                holds("12: " + method + " makes " + made, makes ? made.startsWith("Bramblehall$")
                        : EXCEPTIONS.contains(made));
            }
            case 188, 189, 197 -> holds("12: " + method + " makes an array", makes);
            case 191 -> holds("6: " + method + " throws", !makes);
            case 192, 193 -> holds("7: " + method + " casts or asks for a class", false);
            case 194, 195 -> holds("6: " + method + " is synchronized", false);
            default -> { }
        }
    }

    private void called(String method, String other) {
        CALLS.get(method).add(other);
        boolean exception = other.endsWith(".<init>") && EXCEPTIONS.contains(other.substring(0, other.indexOf('.')));
        holds("4: " + method + " calls " + other, exception || LIBRARY.contains(other)
                || other.startsWith("Bramblehall.") || other.startsWith("Bramblehall$"));
    }
}
