import java.io.IOException;
import java.lang.reflect.Constructor;
import java.lang.reflect.Field;
import java.lang.reflect.Method;
import java.lang.reflect.Modifier;
import java.nio.file.Files;
import java.nio.file.Path;
import java.util.ArrayList;
import java.util.Arrays;
import java.util.Collections;
import java.util.List;

/** The face is the document's and no more, and the source keeps to the rules of the language that can be seen. */
public final class FaceTest {
    private static final String[] FACE = {
        "int shape(int, int)", "int load(int)", "int print(int, int)", "int puts(int, int)", "int takes(int, int)",
        "int has(int, int)", "int twin(int)", "int keys(int)", "int wrongs(int)", "int slot(int, int)",
        "long word(int, int) NoSuchElementException", "int lays(int)", "int sets(int, int, int, int)",
        "int run(int, int)", "int cluster(int, int)", "int clusters(int)", "int would(int, int)", "int looks(int)",
        "int nth(int, int)", "int best(int)", "int span(int, int, int)", "int after(int, int)", "int gaps(int)",
        "int doubles(int)", "int halves(int)", "int merges()", "int spills(int)", "int both(int)", "int parts(int)",
        "int keeps(boolean)", "int clears(int)", "int common()", "int full(int)", "int count(int, int)",
        "int sign(int)", "boolean end(int)", "long row(int) NoSuchElementException"};

    public static void main(String[] args) throws IOException {
        members();
        namesOfPrivateMethods();
        fields();
        nestedClasses();
        String source = Files.readString(Path.of("src/main/java/QuotientFile.java"));
        words(source);
        objectsMade(source);
        lengthsOfMethods(source);
        Due.finish();
    }

    private static String told(Method method) {
        List<String> types = new ArrayList<>();
        for (Class<?> type : method.getParameterTypes()) {
            types.add(type.getName());
        }
        StringBuilder all = new StringBuilder();
        all.append(method.getReturnType().getName()).append(' ').append(method.getName());
        all.append('(').append(String.join(", ", types)).append(')');
        for (Class<?> type : method.getExceptionTypes()) {
            all.append(' ').append(type.getSimpleName());
        }
        return all.toString();
    }

    private static void members() {
        Class<?> c = QuotientFile.class;
        Due.is("public and final", c.getModifiers(), Modifier.PUBLIC | Modifier.FINAL);
        List<String> open = new ArrayList<>();
        for (Method method : c.getDeclaredMethods()) {
            if (!Modifier.isPrivate(method.getModifiers())) {
                open.add(told(method));
                Due.is(method.getName() + " is public", method.getModifiers(), Modifier.PUBLIC);
            }
        }
        List<String> due = new ArrayList<>(Arrays.asList(FACE));
        Collections.sort(open);
        Collections.sort(due);
        Due.is("the face " + open, open.equals(due), true);
        Constructor<?>[] constructors = c.getDeclaredConstructors();
        Due.is("constructors", constructors.length, 1);
        Due.is("the constructor is public", constructors[0].getModifiers(), Modifier.PUBLIC);
        Due.is("the constructor takes nothing", constructors[0].getParameterCount(), 0);
    }

    private static void namesOfPrivateMethods() {
        List<String> names = new ArrayList<>();
        for (String one : FACE) {
            names.add(one.substring(one.indexOf(' ') + 1, one.indexOf('(')));
        }
        List<Class<?>> all = new ArrayList<>(Arrays.asList(QuotientFile.class.getDeclaredClasses()));
        all.add(QuotientFile.class);
        for (Class<?> c : all) {
            for (Method method : c.getDeclaredMethods()) {
                boolean ofFace = c == QuotientFile.class && Modifier.isPublic(method.getModifiers());
                Due.is("name of " + method, !ofFace && names.contains(method.getName()), false);
                Due.is("parameters of " + method, method.getParameterCount() <= 7, true);
            }
        }
    }

    private static void fields() {
        for (Field field : QuotientFile.class.getDeclaredFields()) {
            boolean constant = field.getName().equals("NONE");
            Due.is("private: " + field, Modifier.isPrivate(field.getModifiers()), !constant);
        }
        for (Class<?> c : QuotientFile.class.getDeclaredClasses()) {
            for (Field field : c.getDeclaredFields()) {
                int m = field.getModifiers();
                Due.is("static and not final: " + field, Modifier.isStatic(m) && !Modifier.isFinal(m), false);
            }
        }
    }

    private static void nestedClasses() {
        Class<?>[] nested = QuotientFile.class.getDeclaredClasses();
        Due.is("some twelve classes", nested.length < 12, true);
        for (Class<?> c : nested) {
            Due.is("static: " + c, Modifier.isStatic(c.getModifiers()), true);
            Due.is("some twenty fields: " + c, c.getDeclaredFields().length <= 20, true);
            Due.is("open: " + c, Modifier.isPublic(c.getModifiers()) || Modifier.isProtected(c.getModifiers()), false);
        }
    }

    private static void words(String source) {
        String[] ruledOut = {"->", "::", "finally", "synchronized", "assert ", "catch", "static {", "package ",
            "Random", "System.", "Thread", "Float.", "Double.", "Exact(", "NaN", " var ", "lambda"};
        for (String word : ruledOut) {
            Due.is("the source has '" + word + "'", source.contains(word), false);
        }
        int imports = 0;
        for (String line : source.split("\n")) {
            imports += line.startsWith("import ") ? 1 : 0;
            Due.is("a sign above 126 in: " + line, line.chars().anyMatch(FaceTest::isAbove), false);
        }
        Due.is("imports", imports, 1);
        Due.is("the one import", source.contains("import java.util.NoSuchElementException;"), true);
    }

    /** Rows and helpers are made once with the object; a call makes nothing but what it throws. */
    private static void objectsMade(String source) {
        int from = source.indexOf("    public QuotientFile() {");
        int to = source.indexOf("\n    }\n", from);
        String calls = source.substring(0, from) + source.substring(to);
        for (String line : calls.split("\n")) {
            String told = line.trim();
            boolean row = told.matches("private final \\w+\\[\\] \\w+ = new \\w+\\[MOST_\\w+\\];");
            boolean thrown = told.matches("throw new NoSuchElementException\\(\"[^\"]*\"\\);");
            boolean made = told.matches(".*\\bnew \\w+[(\\[<].*");
            Due.is("makes an object: " + told, made && !row && !thrown, false);
        }
    }

    private static void lengthsOfMethods(String source) {
        List<String> lines = Arrays.asList(source.split("\n"));
        int methods = 0;
        for (int i = 0; i < lines.size(); i++) {
            if (lines.get(i).matches("( {4}| {8}(?!if|for|while|switch))[a-z].*\\(.*\\{")) {
                methods++;
                String end = lines.get(i).replaceAll("\\S.*", "}");
                int length = lines.subList(i, lines.size()).indexOf(end) + 1;
                Due.is("some sixty lines: " + lines.get(i), length > 2 && length <= 60, true);
            }
        }
        Due.is("methods were found", methods > FACE.length, true);
    }

    private static boolean isAbove(int sign) {
        return sign > 126;
    }
}
