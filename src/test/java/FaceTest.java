import java.io.IOException;
import java.lang.reflect.Constructor;
import java.lang.reflect.Field;
import java.lang.reflect.Method;
import java.lang.reflect.Modifier;
import java.nio.file.Files;
import java.nio.file.Path;
import java.util.ArrayList;
import java.util.Arrays;
import java.util.List;
import java.util.Set;
import java.util.TreeSet;
import java.util.regex.Matcher;
import java.util.regex.Pattern;

/** The document's face, and the rules of LANGUAGE.md that can be told from the class and its source. */
public final class FaceTest {
    private static final Due DUE = new Due("FaceTest");
    private static final Path SOURCE = Path.of("src/main/java/RouteProofs.java");
    private static final String[] METHODS = {
        "int setUp(int,int)", "int wall(int,int)", "int role(int,int)", "int wire(int,int)", "int turn(int)",
        "int cell(int,int)", "int put(long)", "int wipe()", "int fault()", "int load()", "long falling(int,int)",
        "int pair(int,int)", "int unpair()", "long tuples()", "long determinant()", "int steps(int,int)",
        "int shortest(int,int,int)", "int flow()", "int pass(int,int)", "int changed(int)", "int bestTurns(int)",
        "int cover()", "int group(int)", "int step(int,int)", "int back(int)", "int route(int,int)",
        "int about(int,int)", "int meeting(int,int)", "int exchange(int,int)", "int check(int,int)",
        "int count(int)", "int save(int)", "int restore(int)"
    };
    private static final String[] CONSTANTS = {
        "int NO_SUCH", "int BAD_VALUE", "int BAD_TEXT", "int TOO_MANY", "int NOT_POSSIBLE", "int NONE", "long GONE",
        "int NOTHING", "int SOURCE", "int TARGET", "int MARKED"
    };
    // Library methods of rule 4 that the class uses; another one has to be looked up there first.
    private static final Set<String> LIBRARY = Set.of("Long.bitCount", "Integer.bitCount", "Math.min", "Math.max", "System.arraycopy");

    private FaceTest() {
    }

    public static void main(String[] args) throws IOException {
        publicFace();
        for (Class<?> type : classes()) {
            shapeOf(type);
        }
        words(withoutComments(Files.readString(SOURCE)));
        lengthsOfMethods(Files.readAllLines(SOURCE));
        DUE.end();
    }

    private static List<Class<?>> classes() {
        List<Class<?>> classes = new ArrayList<>();
        classes.add(RouteProofs.class);
        classes.addAll(Arrays.asList(RouteProofs.class.getDeclaredClasses()));
        DUE.holds("rule 11: at most twelve classes", classes.size() <= 12);
        return classes;
    }

    private static void publicFace() {
        Class<?> face = RouteProofs.class;
        DUE.holds("public and final", Modifier.isPublic(face.getModifiers()) && Modifier.isFinal(face.getModifiers()));
        DUE.holds("no package", face.getPackageName().isEmpty());
        Constructor<?>[] constructors = face.getDeclaredConstructors();
        DUE.holds("one public constructor without parameters", constructors.length == 1
            && Modifier.isPublic(constructors[0].getModifiers()) && constructors[0].getParameterCount() == 0);
        Set<String> methods = new TreeSet<>();
        Set<String> publicNames = new TreeSet<>();
        for (Method method : face.getDeclaredMethods()) {
            if (!Modifier.isPrivate(method.getModifiers())) {
                DUE.holds(method + " is public and no more", method.getModifiers() == Modifier.PUBLIC);
                methods.add(signature(method));
                publicNames.add(method.getName());
            }
        }
        DUE.holds("the methods of the document: " + methods, methods.equals(new TreeSet<>(Arrays.asList(METHODS))));
        for (Class<?> type : classes()) {
            for (Method method : type.getDeclaredMethods()) {
                boolean own = type == face && Modifier.isPublic(method.getModifiers());
                DUE.holds("rule 1: the name of " + method, own || !publicNames.contains(method.getName()));
            }
        }
        Set<String> constants = new TreeSet<>();
        for (Field field : face.getDeclaredFields()) {
            if (!Modifier.isPrivate(field.getModifiers())) {
                DUE.holds(field + " is a public constant",
                    field.getModifiers() == (Modifier.PUBLIC | Modifier.STATIC | Modifier.FINAL));
                constants.add(field.getType() + " " + field.getName());
            }
        }
        DUE.holds("the constants of the document: " + constants, constants.equals(new TreeSet<>(Arrays.asList(CONSTANTS))));
    }

    private static String signature(Method method) {
        StringBuilder text = new StringBuilder();
        for (Class<?> type : method.getParameterTypes()) {
            text.append(text.length() == 0 ? "" : ",").append(type);
        }
        return method.getReturnType() + " " + method.getName() + "(" + text + ")";
    }

    private static void shapeOf(Class<?> type) {
        if (type != RouteProofs.class) {
            DUE.holds("rule 1: " + type + " is static and not public", Modifier.isStatic(type.getModifiers())
                && !Modifier.isPublic(type.getModifiers()) && !Modifier.isProtected(type.getModifiers()));
            DUE.holds("two levels of classes", type.getDeclaredClasses().length == 0);
        }
        int fields = 0;
        for (Field field : type.getDeclaredFields()) {
            if (Modifier.isStatic(field.getModifiers())) {
                DUE.holds("rule 5: " + field + " is final", Modifier.isFinal(field.getModifiers()));
            } else {
                fields++;
            }
            Class<?> part = field.getType().isArray() ? field.getType().getComponentType() : field.getType();
            boolean fine = part.isPrimitive() || part == String.class || part.getEnclosingClass() == RouteProofs.class;
            DUE.holds("rule 3: the type of " + field, fine);
        }
        DUE.holds("rule 11: fields of " + type, fields <= 20);
        for (Method method : type.getDeclaredMethods()) {
            DUE.holds("rule 11: parameters of " + method, method.getParameterCount() <= 7);
            DUE.holds("rules 2 and 6: " + method, !method.isSynthetic() && !Modifier.isSynchronized(method.getModifiers()));
        }
    }

    private static String withoutComments(String source) {
        return source.replaceAll("(?s)/\\*.*?\\*/", " ").replaceAll("//[^\n]*", " ").replaceAll("\"[^\"]*\"", "TEXT");
    }

    private static void words(String code) {
        String[] banned = {"throw", "throws", "try", "catch", "finally", "synchronized", "assert", "import", "package",
            "volatile", "transient", "native", "strictfp", "hashCode", "toString", "double", "float", "var"};
        for (String word : banned) {
            DUE.holds("no word " + word, !Pattern.compile("\\b" + word + "\\b").matcher(code).find());
        }
        DUE.holds("rule 2: no lambda, no method reference", !code.contains("->") && !code.contains("::"));
        DUE.holds("no annotation", !code.contains("@"));
        Matcher calls = Pattern.compile("\\b(Long|Integer|Math|System|Arrays|String|Character|List|Object)\\.(\\w+)").matcher(code);
        while (calls.find()) {
            DUE.holds("rule 4: " + calls.group(), LIBRARY.contains(calls.group()));
        }
    }

    private static void lengthsOfMethods(List<String> lines) {
        int start = -1;
        for (int index = 0; index < lines.size(); index++) {
            String line = lines.get(index);
            boolean opens = line.matches(" {4}( {4})?[^ ].*\\) \\{");
            if (opens) {
                start = index;
            }
            if (start >= 0 && line.matches(" {4}( {4})?\\}")) {
                DUE.holds("rule 11: the method at line " + (start + 1) + " is short", index - start < 60);
                start = -1;
            }
        }
    }
}
