import java.io.IOException;
import java.lang.reflect.Constructor;
import java.lang.reflect.Field;
import java.lang.reflect.Method;
import java.lang.reflect.Modifier;
import java.nio.file.Files;
import java.nio.file.Path;
import java.util.ArrayList;
import java.util.HashSet;
import java.util.List;
import java.util.Set;
import java.util.TreeSet;

/** The public face is that of the document, and the source keeps to some rules of ../shared/LANGUAGE.md. */
public final class FaceTest {
    private static final String SOURCE = "src/main/java/LayeredClaims.java";
    /** The methods with the numbers of their arguments, all of them int, as are the answers. */
    private static final String METHODS = "addCover/4 addLayer/4 addEvent/1 addClaim/3 removeClaim/1 setDay/2"
        + " setDeductible/2 setIndex/1 setRecovery/2 append/1 read/0 faultPosition/0 undo/0 count/1 cover/2 layer/2"
        + " deductible/1 event/2 eventAt/1 claim/2 gross/2 deducted/2 paid/2 leftBefore/2 borne/2 returned/2 place/1"
        + " worst/0 account/1 result/0 ratioBits/0 isBalanced/0 paidIf/2 leastLimit/1 file/4 use/2 filed/2 save/0"
        + " restore/0";
    private static final String CONSTANTS = "NO_SUCH_ELEMENT BAD_VALUE FULL NONE STATE UNLIKE";
    private static final String[] FORBIDDEN = {"import ", "->", "::", "catch", "finally", "synchronized", "assert ",
        "Float.", "Double.", "Exact(", "Object", "hashCode", "toString", "double", "protected ", "package ", "new int[]{"};
    private static int wrong;

    public static void main(String[] args) throws IOException {
        Class<LayeredClaims> type = LayeredClaims.class;
        due("the class is public and final", Modifier.isPublic(type.getModifiers()) && Modifier.isFinal(type.getModifiers()));
        checkMethods(type);
        checkFields(type);
        checkConstructors(type);
        checkInnerClasses(type);
        checkSource();
        System.out.println(wrong == 0 ? "the face is that of the document" : wrong + " checks failed");
        if (wrong != 0) {
            System.exit(1);
        }
    }

    private static void due(String what, boolean holds) {
        if (!holds) {
            wrong++;
            System.out.println("not so: " + what);
        }
    }

    private static void checkMethods(Class<?> type) {
        Set<String> face = new TreeSet<>();
        Set<String> names = new HashSet<>();
        for (Method method : type.getDeclaredMethods()) {
            if (Modifier.isPrivate(method.getModifiers())) {
                continue;
            }
            face.add(method.getName() + "/" + method.getParameterCount());
            due(method + " is public and not static", method.getModifiers() == Modifier.PUBLIC);
            due(method + " answers an int", method.getReturnType() == int.class);
            for (Class<?> parameter : method.getParameterTypes()) {
                due(method + " takes ints", parameter == int.class);
            }
            names.add(method.getName());
        }
        due("the methods are " + METHODS, face.equals(new TreeSet<>(List.of(METHODS.split(" ")))));
        for (Method method : innerMethods(type)) {
            due(method + " has a name of its own", !names.contains(method.getName()));
        }
    }

    private static List<Method> innerMethods(Class<?> type) {
        List<Method> methods = new ArrayList<>();
        for (Method method : type.getDeclaredMethods()) {
            if (Modifier.isPrivate(method.getModifiers())) {
                methods.add(method);
            }
        }
        for (Class<?> inner : type.getDeclaredClasses()) {
            methods.addAll(List.of(inner.getDeclaredMethods()));
        }
        return methods;
    }

    private static void checkFields(Class<?> type) {
        Set<String> constants = new TreeSet<>();
        for (Field field : type.getDeclaredFields()) {
            if (!Modifier.isPrivate(field.getModifiers())) {
                constants.add(field.getName());
                due(field + " is a constant", field.getType() == int.class
                    && field.getModifiers() == (Modifier.PUBLIC | Modifier.STATIC | Modifier.FINAL));
            }
        }
        due("the constants are " + CONSTANTS, constants.equals(new TreeSet<>(List.of(CONSTANTS.split(" ")))));
    }

    private static void checkConstructors(Class<?> type) {
        Constructor<?>[] constructors = type.getDeclaredConstructors();
        due("there is one constructor", constructors.length == 1);
        due("it is public without arguments", Modifier.isPublic(constructors[0].getModifiers())
            && constructors[0].getParameterCount() == 0);
    }

    private static void checkInnerClasses(Class<?> type) {
        due("there are at most 12 classes", type.getDeclaredClasses().length < 12);
        for (Class<?> inner : type.getDeclaredClasses()) {
            due(inner + " is static and not public", Modifier.isStatic(inner.getModifiers())
                && !Modifier.isPublic(inner.getModifiers()) && !Modifier.isProtected(inner.getModifiers()));
            int fields = 0;
            for (Field field : inner.getDeclaredFields()) {
                fields += Modifier.isStatic(field.getModifiers()) ? 0 : 1;
                due(field + " is final if static", !Modifier.isStatic(field.getModifiers())
                    || Modifier.isFinal(field.getModifiers()));
            }
            due(inner + " has at most 20 fields", fields <= 20);
        }
    }

    private static void checkSource() throws IOException {
        for (String line : Files.readAllLines(Path.of(SOURCE))) {
            String code = line.strip();
            if (code.startsWith("*") || code.startsWith("/")) {
                continue;
            }
            for (String word : FORBIDDEN) {
                due("no \"" + word + "\" in: " + code, !code.contains(word));
            }
            due("new stands in a field or a constructor alone: " + code,
                !code.contains("new ") || code.contains(" final ") || code.startsWith("final ")
                    || code.equals("ring[i] = new Book();"));
        }
    }
}
