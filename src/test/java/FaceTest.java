import java.lang.reflect.Constructor;
import java.lang.reflect.Field;
import java.lang.reflect.Method;
import java.lang.reflect.Modifier;
import java.nio.file.Files;
import java.nio.file.Path;
import java.util.Arrays;
import java.util.List;
import java.util.Set;
import java.util.TreeSet;
import java.util.regex.Matcher;
import java.util.regex.Pattern;

/** The face is the document's and no more; the source keeps to those rules of LANGUAGE.md that a text shows. */
public final class FaceTest {
    private static final String SOURCE = "src/main/java/EarCode.java";
    private static final int MOST_LINES = 60;
    private static final int MOST_CLASSES = 12;
    private static final int MOST_FIELDS = 20;
    private static final int MOST_PARAMETERS = 7;
    private static final String[] FACE = {
        "int feed int int int int int", "boolean end int", "int code", "int republic", "int fault", "int clause int int",
        "int citizen int int", "long seen int", "int habit int int", "int matter int int int", "int tell int int",
        "int die int", "int wed int int", "int baby int", "int release int", "int days int", "int nobody", "int relief",
        "int read int", "int next int", "int cover", "int dies int", "int heirs int", "int risk int int",
        "int safe int int", "int better int int", "int telling int boolean", "int deduced int", "int hush int",
        "int usual int", "long feared boolean", "int custom int", "int settles", "int provoked int boolean",
        "int crowd int int", "int witnesses int int int", "int trial int int", "int span int boolean", "int first",
        "int led int", "int worst", "int log int int", "int seed int", "boolean undo", "void image", "boolean back",
        "int count int",
    };
    private static final List<String> FORBIDDEN = List.of(
            "->", "::", "\\bcatch\\b", "\\btry\\b", "\\bfinally\\b", "\\bsynchronized\\b", "\\bassert\\b", "\\bstatic\\s*\\{",
            "\\bSystem\\.(?!arraycopy)", "\\bThread\\b", "\\bObject\\b", "\\bvar\\b", "\\bdouble\\b", "\\bfloat\\b",
            "Exact\\(", "\\bthis\\s*\\)", "\\bRandom\\b", "\\bnumberOf", "\" \\+", "\\+ \"", "\\bArrays\\b", "\\[\\]\\[\\]");

    private static int wrong = 0;

    private static void fault(String what) {
        wrong++;
        System.out.println(what);
    }

    private static String told(Method m) {
        StringBuilder s = new StringBuilder(m.getReturnType().getSimpleName() + " " + m.getName());
        for (Class<?> p : m.getParameterTypes()) {
            s.append(' ').append(p.getSimpleName());
        }
        return s.toString();
    }

    private static Set<String> names() {
        Set<String> names = new TreeSet<>();
        for (String row : FACE) {
            names.add(row.split(" ")[1]);
        }
        return names;
    }

    private static void checkFace() {
        Set<String> due = new TreeSet<>(Arrays.asList(FACE));
        Set<String> names = names();
        for (Method m : EarCode.class.getDeclaredMethods()) {
            if (Modifier.isPublic(m.getModifiers())) {
                if (!due.remove(told(m)) || Modifier.isStatic(m.getModifiers())) {
                    fault("not in the document: " + told(m));
                }
            } else if (!Modifier.isPrivate(m.getModifiers())) {
                fault("visible beside the face: " + told(m));
            } else if (names.contains(m.getName())) {
                fault("a private method with a public name: " + told(m));
            }
        }
        for (String missing : due) {
            fault("missing: " + missing);
        }
        for (Field f : EarCode.class.getDeclaredFields()) {
            boolean none = f.getName().equals("NONE");
            if (Modifier.isPublic(f.getModifiers()) != none || !none && !Modifier.isPrivate(f.getModifiers())) {
                fault("a visible field: " + f);
            }
        }
        Constructor<?>[] made = EarCode.class.getDeclaredConstructors();
        if (made.length != 1 || made[0].getParameterCount() != 0 || !Modifier.isPublic(made[0].getModifiers())) {
            fault("constructors: " + Arrays.toString(made));
        }
        if (!Modifier.isFinal(EarCode.class.getModifiers()) || EarCode.class.getPackage() != null
                && !EarCode.class.getPackage().getName().isEmpty()) {
            fault("the class is final and has no package");
        }
    }

    private static void checkClasses() {
        Class<?>[] inside = EarCode.class.getDeclaredClasses();
        if (inside.length + 1 > MOST_CLASSES) {
            fault("too many classes: " + (inside.length + 1));
        }
        for (Class<?> c : inside) {
            if (!Modifier.isStatic(c.getModifiers()) || Modifier.isPublic(c.getModifiers())) {
                fault("a class inside is static and not public: " + c);
            }
            for (Method m : c.getDeclaredMethods()) {
                if (names().contains(m.getName())) {
                    fault("a method inside with a public name: " + m);
                }
            }
            checkSize(c);
        }
        checkSize(EarCode.class);
    }

    private static void checkSize(Class<?> c) {
        long fields = Arrays.stream(c.getDeclaredFields()).filter(f -> !Modifier.isStatic(f.getModifiers())).count();
        if (fields > MOST_FIELDS) {
            fault("too many fields: " + c + " " + fields);
        }
        for (Field f : c.getDeclaredFields()) {
            if (Modifier.isStatic(f.getModifiers()) && !Modifier.isFinal(f.getModifiers())) {
                fault("a static field that is not final: " + f);
            }
        }
        for (Method m : c.getDeclaredMethods()) {
            if (m.getParameterCount() > MOST_PARAMETERS) {
                fault("too many parameters: " + m);
            }
        }
    }

    private static void checkSource() throws java.io.IOException {
        String source = Files.readString(Path.of(SOURCE));
        String bare = source.replaceAll("(?s)/\\*.*?\\*/", "").replaceAll("//[^\n]*", "");
        for (String pattern : FORBIDDEN) {
            Matcher m = Pattern.compile(pattern).matcher(bare);
            if (m.find()) {
                fault("the source has " + m.group());
            }
        }
        Matcher imports = Pattern.compile("import ([\\w.]+);").matcher(bare);
        while (imports.find()) {
            if (!imports.group(1).equals("java.util.NoSuchElementException")) {
                fault("import " + imports.group(1));
            }
        }
        checkLengths(source.split("\n"));
    }

    private static void checkLengths(String[] lines) {
        Pattern head = Pattern.compile("( {4}| {8})(public|private|static|int|long|boolean|void|[A-Z]\\w*\\().*\\{");
        for (int i = 0; i < lines.length; i++) {
            Matcher m = head.matcher(lines[i]);
            if (m.matches() && !lines[i].contains(" class ")) {
                String end = m.group(1) + "}";
                int to = i;
                while (to < lines.length && !lines[to].equals(end)) {
                    to++;
                }
                if (to - i + 1 > MOST_LINES) {
                    fault("a long method, " + (to - i + 1) + " lines: " + lines[i].trim());
                }
            }
        }
    }

    public static void main(String[] args) throws java.io.IOException {
        checkFace();
        checkClasses();
        checkSource();
        System.out.println(wrong == 0 ? "the face is as the document has it" : wrong + " faults");
        if (wrong != 0) {
            System.exit(1);
        }
    }
}
