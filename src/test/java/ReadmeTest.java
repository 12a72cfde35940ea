import java.lang.reflect.InvocationTargetException;
import java.lang.reflect.Method;
import java.lang.reflect.Modifier;
import java.nio.ByteBuffer;
import java.nio.charset.StandardCharsets;
import java.nio.file.Files;
import java.nio.file.Path;
import java.util.Arrays;
import java.util.regex.Matcher;
import java.util.regex.Pattern;

/** README.md's calls are made, and must answer what it says behind them; it names every call of the face. */
public final class ReadmeTest {
    private static final Pattern CALL = Pattern.compile("x\\.(\\w+)\\(([^)]*)\\);\\s+// (throws \\w+|\\w+).*");
    private static final Pattern TAPE = Pattern.compile("tape\\(x, \"(.*)\"\\);");
    private static final int LEAST_CALLS = 15;

    private static int wrong = 0;

    private static void fault(String what) {
        wrong++;
        System.out.println(what);
    }

    /** As README.md has it. */
    static void tape(EarCode x, String text) {
        byte[] bytes = Arrays.copyOf(text.getBytes(StandardCharsets.ISO_8859_1), (text.length() + 19) / 20 * 20);
        ByteBuffer ints = ByteBuffer.wrap(bytes);
        x.end(0);
        while (ints.hasRemaining()) {
            x.feed(ints.getInt(), ints.getInt(), ints.getInt(), ints.getInt(), ints.getInt());
        }
        x.end(text.length());
    }

    private static Object value(String told, Class<?> type) {
        return type == boolean.class ? (Object) Boolean.valueOf(told) : (Object) Integer.valueOf(told);
    }

    private static String answer(EarCode x, String name, String[] told) throws IllegalAccessException {
        for (Method m : EarCode.class.getMethods()) {
            if (m.getName().equals(name) && m.getParameterCount() == told.length) {
                Object[] values = new Object[told.length];
                for (int i = 0; i < told.length; i++) {
                    values[i] = value(told[i], m.getParameterTypes()[i]);
                }
                try {
                    return String.valueOf(m.invoke(x, values));
                } catch (InvocationTargetException e) {
                    return "throws " + e.getCause().getClass().getSimpleName();
                }
            }
        }
        return "there is no such call";
    }

    private static int makeCalls(String[] lines) throws IllegalAccessException {
        EarCode x = new EarCode();
        int calls = 0;
        for (String line : lines) {
            Matcher tape = TAPE.matcher(line);
            Matcher call = CALL.matcher(line);
            if (tape.matches()) {
                tape(x, tape.group(1));
            } else if (call.matches()) {
                calls++;
                String[] told = call.group(2).isEmpty() ? new String[0] : call.group(2).split(", ");
                String got = answer(x, call.group(1), told);
                if (!got.equals(call.group(3))) {
                    fault(line + " answered " + got);
                }
            } else if (line.startsWith("x.")) {
                fault("no answer is told: " + line);
            }
        }
        return calls;
    }

    private static void checkHelper(String readme, String source) {
        int from = source.indexOf("static void tape(");
        int to = source.indexOf("\n    }\n", from);
        if (from < 0 || to < 0 || !readme.contains(source.substring(from, to).replace("\n    ", "\n"))) {
            fault("README.md has another way to put a text on the tape");
        }
    }

    private static void checkNames(String readme) {
        for (Method m : EarCode.class.getDeclaredMethods()) {
            if (Modifier.isPublic(m.getModifiers()) && !readme.contains("`" + m.getName() + "`")) {
                fault("README.md does not name " + m.getName());
            }
        }
    }

    public static void main(String[] args) throws java.io.IOException, IllegalAccessException {
        String readme = Files.readString(Path.of("README.md"));
        int calls = makeCalls(readme.split("\n"));
        if (calls < LEAST_CALLS) {
            fault("README.md tells " + calls + " calls alone");
        }
        checkHelper(readme, Files.readString(Path.of("src/test/java/ReadmeTest.java")));
        checkNames(readme);
        System.out.println(wrong == 0 ? "README.md is right" : wrong + " faults");
        if (wrong != 0) {
            System.exit(1);
        }
    }
}
