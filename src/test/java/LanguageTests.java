import java.io.DataInputStream;
import java.io.IOException;
import java.io.InputStream;
import java.lang.reflect.Constructor;
import java.lang.reflect.Field;
import java.lang.reflect.Method;
import java.lang.reflect.Modifier;
import java.nio.file.Files;
import java.nio.file.Path;
import java.util.ArrayList;
import java.util.HashSet;
import java.util.List;
import java.util.Set;

/** What of LANGUAGE.md the compiled class and its text can show. */
public final class LanguageTests {
    private static final Set<String> LIBRARY = Set.of("java/lang/Object.<init>", "java/lang/String.indexOf",
            "java/lang/Integer.bitCount", "java/lang/Math.min", "java/lang/Math.max");
    private static final String[] NEVER = {"catch", "finally", "throw ", "try ", "synchronized", "assert ", "->",
        "::", "import ", "System.", "Object[]", "static {"};
    private static final Check check = new Check();

    public static void main(String[] args) throws IOException {
        List<Class<?>> classes = new ArrayList<>(List.of(UnsaidHorse.class));
        classes.addAll(List.of(UnsaidHorse.class.getDeclaredClasses()));
        check.due("rule 11: classes", classes.size() <= 12 ? 0 : classes.size(), 0);
        Set<String> face = new HashSet<>();
        for (Method method : UnsaidHorse.class.getMethods()) {
            face.add(method.getName());
        }
        for (Class<?> one : classes) {
            shape(one, face);
            library(one);
        }
        text();
        check.end();
    }

    private static void shape(Class<?> one, Set<String> face) {
        int fields = 0;
        for (Field field : one.getDeclaredFields()) {
            boolean isStatic = Modifier.isStatic(field.getModifiers());
            fields += isStatic ? 0 : 1;
            check.due("rule 5: " + field, isStatic && !Modifier.isFinal(field.getModifiers()) ? 1 : 0, 0);
        }
        check.due("rule 11: fields of " + one, fields <= 20 ? 0 : fields, 0);
        for (Method method : one.getDeclaredMethods()) {
            boolean isOpen = Modifier.isPublic(method.getModifiers());
            check.due("rule 1: the name of " + method, !isOpen && face.contains(method.getName()) ? 1 : 0, 0);
            check.due("rule 11: parameters of " + method, method.getParameterCount() <= 7 ? 0 : 1, 0);
        }
        if (one != UnsaidHorse.class) {
            check.due("rule 2: " + one, Modifier.isStatic(one.getModifiers())
                    && !Modifier.isPublic(one.getModifiers()) ? 0 : 1, 0);
        } else {
            Constructor<?>[] makers = one.getConstructors();
            check.due("rule 1: constructors", makers.length, 1);
            check.due("rule 1: parameters of the constructor", makers.length == 1 ? makers[0].getParameterCount() : -1, 0);
        }
    }

    /** Looks up what the class calls, by the constant pool of its file. */
    private static void library(Class<?> one) throws IOException {
        try (InputStream file = one.getResourceAsStream(one.getName() + ".class");
                DataInputStream in = new DataInputStream(file)) {
            in.readInt();
            in.readInt();
            int many = in.readUnsignedShort();
            String[] texts = new String[many];
            int[][] pairs = new int[many][];
            for (int at = 1; at < many; at++) {
                int tag = in.readUnsignedByte();
                switch (tag) {
                    case 1: texts[at] = in.readUTF(); break;
                    case 3: case 4: in.readInt(); break;
                    case 5: case 6: in.readLong(); at++; break;
                    case 7: case 8: case 16: pairs[at] = new int[] {tag, in.readUnsignedShort(), 0}; break;
                    case 15: in.readUnsignedByte(); in.readUnsignedShort(); break;
                    default: pairs[at] = new int[] {tag, in.readUnsignedShort(), in.readUnsignedShort()}; break;
                }
                check.due("rule 2: a lambda in " + one, tag == 15 || tag == 18 ? 1 : 0, 0);
            }
            for (int[] pair : pairs) {
                if (pair != null && (pair[0] == 9 || pair[0] == 10 || pair[0] == 11)) {
                    String owner = texts[pairs[pair[1]][1]];
                    String call = owner + "." + texts[pairs[pair[2]][1]];
                    check.due("rule 4: " + call, owner.startsWith("UnsaidHorse") || LIBRARY.contains(call) ? 0 : 1, 0);
                }
            }
        }
    }

    private static void text() throws IOException {
        List<String> lines = Files.readAllLines(Path.of("src/main/java/UnsaidHorse.java"));
        for (int at = 0; at < lines.size(); at++) {
            String line = lines.get(at);
            for (String never : NEVER) {
                check.due("line " + (at + 1) + ": " + never, line.contains(never) ? 1 : 0, 0);
            }
            check.due("line " + (at + 1) + " is long", line.length() > 120 ? line.length() : 0, 0);
            check.due("line " + (at + 1) + " has other signs", line.chars().allMatch(c -> c >= 32 && c < 127) ? 0 : 1, 0);
        }
    }
}
