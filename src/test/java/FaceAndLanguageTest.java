import java.io.IOException;
import java.lang.reflect.Constructor;
import java.lang.reflect.Field;
import java.lang.reflect.Method;
import java.lang.reflect.Modifier;
import java.nio.file.Files;
import java.nio.file.Path;
import java.util.ArrayList;
import java.util.Arrays;
import java.util.HashSet;
import java.util.List;
import java.util.Set;
import java.util.TreeSet;

/** The public face of the document, and what can be looked up of ../shared/LANGUAGE.md. */
public final class FaceAndLanguageTest {
    private static final Path SOURCE = Path.of("src/main/java/QuarryBlends.java");
    private static final String FACE = "GAP,HOURS,LOAD,NONE,NOT_POSSIBLE,NO_SUCH,TOO_MANY,TRUCKS,BAD_TEXT,BAD_VALUE,COST,CRUSH,"
        + "QuarryBlends(),set(int int),face(int int int),contract(int int int int int int),drop(int),mend(),pass(int),"
        + "ofFace(int int),truck(int int),ofContract(int int),bin(int),waiting(int),count(int),then(int int),bestGap(int int),"
        + "leastTrucks(int int),put(long),wipe(),fault(),carryOut(),undo(),save(int),restore(int)";

    public static void main(String[] args) throws IOException {
        face();
        constants();
        noOtherMemberIsSeen();
        noPrivateMethodBearsAPublicName();
        sizes();
        source();
        methodsAreShort();
        Checks.end();
    }

    private static String withParameters(String name, Class<?>[] parameters) {
        StringBuilder text = new StringBuilder(name).append('(');
        for (int i = 0; i < parameters.length; i++) {
            text.append(i == 0 ? "" : " ").append(parameters[i]);
        }
        return text.append(')').toString();
    }

    private static void face() {
        Set<String> due = new TreeSet<>(Set.of(FACE.split(",")));
        Set<String> got = new TreeSet<>();
        for (Field field : QuarryBlends.class.getFields()) {
            got.add(field.getName());
        }
        for (Constructor<?> constructor : QuarryBlends.class.getConstructors()) {
            got.add(withParameters(constructor.getName(), constructor.getParameterTypes()));
        }
        for (Method method : QuarryBlends.class.getDeclaredMethods()) {
            if (Modifier.isPublic(method.getModifiers())) {
                Checks.due(method.getName() + " returns an int", method.getReturnType().toString(), "int");
                got.add(withParameters(method.getName(), method.getParameterTypes()));
            }
        }
        Checks.due("the face", got.toString(), due.toString());
        Checks.due("the class", Modifier.toString(QuarryBlends.class.getModifiers()), "public final");
    }

    private static void constants() {
        int[] got = {QuarryBlends.NO_SUCH, QuarryBlends.BAD_VALUE, QuarryBlends.BAD_TEXT, QuarryBlends.TOO_MANY,
            QuarryBlends.NOT_POSSIBLE, QuarryBlends.NONE, QuarryBlends.TRUCKS, QuarryBlends.LOAD, QuarryBlends.HOURS,
            QuarryBlends.GAP, QuarryBlends.CRUSH, QuarryBlends.COST};
        int[] due = {-1, -2, -3, -4, -5, -6, 0, 1, 2, 3, 4, 5};
        for (int i = 0; i < due.length; i++) {
            Checks.due("constant " + i, got[i], due[i]);
        }
    }

    private static void noOtherMemberIsSeen() {
        for (Field field : QuarryBlends.class.getDeclaredFields()) {
            int modifiers = field.getModifiers();
            boolean ofTheFace = FACE.contains(field.getName()) && Modifier.isPublic(modifiers);
            Checks.due("field " + field.getName() + " is private", ofTheFace || Modifier.isPrivate(modifiers) ? 1 : 0, 1);
            Checks.due("field " + field.getName() + " is final, if static",
                !Modifier.isStatic(modifiers) || Modifier.isFinal(modifiers) ? 1 : 0, 1);
        }
        for (Method method : QuarryBlends.class.getDeclaredMethods()) {
            int modifiers = method.getModifiers();
            Checks.due("method " + method.getName() + " is private or public",
                Modifier.isPrivate(modifiers) || Modifier.isPublic(modifiers) ? 1 : 0, 1);
        }
        for (Class<?> inside : QuarryBlends.class.getDeclaredClasses()) {
            Checks.due(inside.getSimpleName() + " is private and static",
                Modifier.isPrivate(inside.getModifiers()) && Modifier.isStatic(inside.getModifiers()) ? 1 : 0, 1);
        }
    }

    private static void noPrivateMethodBearsAPublicName() {
        Set<String> names = new HashSet<>();
        for (Method method : QuarryBlends.class.getDeclaredMethods()) {
            if (Modifier.isPublic(method.getModifiers())) {
                names.add(method.getName());
            }
        }
        for (Method method : QuarryBlends.class.getDeclaredMethods()) {
            boolean doubled = names.contains(method.getName()) && !Modifier.isPublic(method.getModifiers());
            Checks.due(method.getName() + " is doubled", doubled ? 1 : 0, 0);
        }
        for (Class<?> inside : QuarryBlends.class.getDeclaredClasses()) {
            for (Method method : inside.getDeclaredMethods()) {
                Checks.due(inside.getSimpleName() + "." + method.getName() + " bears a public name", names.contains(method.getName()) ? 1 : 0, 0);
            }
        }
    }

    private static void sizes() {
        List<Class<?>> classes = new ArrayList<>(List.of(QuarryBlends.class.getDeclaredClasses()));
        classes.add(QuarryBlends.class);
        atMost("classes", classes.size(), 12);
        for (Class<?> one : classes) {
            long fields = Arrays.stream(one.getDeclaredFields()).filter(field -> !Modifier.isStatic(field.getModifiers())).count();
            atMost("fields of " + one.getSimpleName(), fields, 20);
            for (Method method : one.getDeclaredMethods()) {
                atMost("parameters of " + one.getSimpleName() + "." + method.getName(), method.getParameterCount(), 7);
            }
        }
    }

    /** A method begins with a line that is indented, has a parameter list and opens a brace, and ends where that is closed. */
    private static void methodsAreShort() throws IOException {
        String header = "";
        int lines = 0;
        int methods = 0;
        for (String line : Files.readAllLines(SOURCE)) {
            lines++;
            if (line.matches("( {4}| {8})[A-Za-z][^=.;]*\\(.*\\) \\{") && !line.matches(" +(if|for|while|switch) .*")) {
                header = line;
                lines = 1;
                methods++;
            } else if (!header.isEmpty() && line.matches(" +}") && line.indexOf('}') == header.length() - header.stripLeading().length()) {
                atMost("lines of " + header.strip(), lines, 60);
                header = "";
            }
        }
        Checks.due("methods are found", methods > 60 ? 1 : 0, 1);
    }

    private static void atMost(String what, long number, long most) {
        Checks.due(what + ", or as many as are allowed", Math.max(number, most), most);
    }

    private static void source() throws IOException {
        String source = Files.readString(SOURCE);
        Checks.due("the import", source.split("\n")[0], "import java.util.Arrays;");
        String code = source.replaceAll("(?s)/\\*.*?\\*/", "").replaceAll("//[^\n]*", "").replaceAll("\"[^\"]*\"", "\"\"");
        String[] words = {"throw", "throws", "try", "catch", "finally", "synchronized", "assert", "package", "float", "double", "record",
            "Object", "Random", "Thread", "File", "equals", "hashCode", "toString", "protected", "lambda", "System.out", "nanoTime"};
        for (String word : words) {
            Checks.due("the word " + word, java.util.regex.Pattern.compile("\\b" + word + "\\b").matcher(code).find() ? 1 : 0, 0);
        }
        Checks.due("an import more", code.split("\\bimport\\b").length, 2);
        Checks.due("lambdas and method references", code.contains("->") || code.contains("::") ? 1 : 0, 0);
        Checks.due("signs above 127", source.chars().anyMatch(sign -> sign > 127) ? 1 : 0, 0);
    }
}
