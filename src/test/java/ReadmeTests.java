import java.io.IOException;
import java.lang.reflect.Field;
import java.lang.reflect.Method;
import java.lang.reflect.Modifier;
import java.nio.file.Files;
import java.nio.file.Path;
import java.util.regex.Matcher;
import java.util.regex.Pattern;

/** README.md: its shown calls answer what stands beside them, and it names every call and constant. */
public final class ReadmeTests {
    private static final Pattern TEXT = Pattern.compile("\"([^\"]+)\"\\.toCharArray");
    private static final Pattern CALL = Pattern.compile("x\\.(\\w+)\\(([-0-9, ]*)\\); +// (-?[0-9]+)[:;].*");
    private static final Check check = new Check();

    public static void main(String[] args) throws ReflectiveOperationException, IOException {
        String readme = Files.readString(Path.of("README.md"));
        shownCalls(readme);
        shownBits();
        shownAmounts();
        namesAll(readme);
        check.end();
    }

    /** The shown calls, one after another, on the court that is typed ahead of them. */
    private static void shownCalls(String readme) throws ReflectiveOperationException {
        Matcher text = TEXT.matcher(readme);
        check.due("README: a court is typed", text.find() ? 1 : 0, 1);
        UnsaidHorse x = new UnsaidHorse();
        Check.type(x, text.group(1));
        int shown = 0;
        for (String line : readme.split("\n")) {
            Matcher call = CALL.matcher(line);
            if (call.matches()) {
                check.due("README: " + line, answer(x, call.group(1), call.group(2)), Long.parseLong(call.group(3)));
                shown++;
            }
        }
        check.due("README: shown calls", shown, 5);
    }

    private static long answer(UnsaidHorse x, String name, String numbers) throws ReflectiveOperationException {
        String[] parts = numbers.isBlank() ? new String[0] : numbers.split(", *");
        Class<?>[] types = new Class<?>[parts.length];
        Object[] values = new Object[parts.length];
        for (int at = 0; at < parts.length; at++) {
            types[at] = int.class;
            values[at] = Integer.parseInt(parts[at].trim());
        }
        return ((Number) UnsaidHorse.class.getMethod(name, types).invoke(x, values)).longValue();
    }

    /** "1 for sign 0, 2 for sign 1, 4 for sign 2, 8 for sign 3", where signs are told and where they are asked. */
    private static void shownBits() {
        for (int sign = 0; sign < 4; sign++) {
            UnsaidHorse x = Check.courtOf("m9" + sign + ",k54;3214");
            check.due("README: known, sign " + sign, x.about(0, 2), 1 << sign);
            check.due("README: safe, sign " + sign, x.safe(0, 1), 1 << sign);
            x.ask(1, 1 << sign, true);
            check.due("README: asked, sign " + sign, x.tells(sign), 0b111110000);
        }
    }

    /** "1 for 1, 2 for 2, 4 for 3, up to 256 for 9": what is left when just that much can be. */
    private static void shownAmounts() {
        int[] shown = {1, 2, 4, 8, 16, 32, 64, 128, 256};
        for (int much = 1; much <= 9; much++) {
            UnsaidHorse x = Check.courtOf("m" + much + "0,m" + Math.min(much + 1, 9) + "4;1111");
            x.ask(0, 1, true);
            x.ask(1, 1, much == 9);
            check.due("README: amount " + much, x.tells(0), shown[much - 1]);
        }
    }

    private static void namesAll(String readme) throws ReflectiveOperationException {
        for (Method method : UnsaidHorse.class.getDeclaredMethods()) {
            if (Modifier.isPublic(method.getModifiers())) {
                check.due("README names " + method.getName(), readme.contains("`" + method.getName() + "(") ? 1 : 0, 1);
            }
        }
        for (Field field : UnsaidHorse.class.getDeclaredFields()) {
            if (Modifier.isPublic(field.getModifiers())) {
                String row = "| `" + field.getName() + "` | " + field.getInt(null) + " |";
                check.due("README: " + row, readme.contains(row) ? 1 : 0, 1);
            }
        }
    }
}
