import java.lang.reflect.Field;
import java.lang.reflect.Method;
import java.lang.reflect.Modifier;
import java.util.Arrays;
import java.util.Set;
import java.util.TreeSet;

/** The public face, and the rules of LANGUAGE.md that can be seen on the compiled class. */
public final class FaceTest {
    private static final Check CHECK = new Check();

    private static final String PLACE = "IndexOutOfBoundsException";
    private static final String ARGUMENT = "IllegalArgumentException";
    private static final String STATE = "IllegalStateException";

    private static final String[] FACE = {
        "int begin [boolean] []",
        "int give [int] [" + PLACE + ", " + STATE + "]",
        "int place [int] [" + PLACE + ", " + STATE + "]",
        "int phase [] []",
        "int onTurn [] []",
        "int hand [] []",
        "int pieceAt [int] [" + PLACE + "]",
        "int placed [] []",
        "int winner [] []",
        "int lines [] []",
        "int onLine [int] [" + PLACE + "]",
        "int shared [int] [" + PLACE + "]",
        "int winning [int] [" + PLACE + ", " + STATE + "]",
        "int safe [] [" + STATE + "]",
        "int worth [int] [" + ARGUMENT + ", " + STATE + "]",
        "int best [int] [" + ARGUMENT + ", " + STATE + "]",
        "int keep [] []",
        "boolean isAlike [] [" + STATE + "]",
        "int symmetries [] []"
    };

    private static String told(Method method) {
        return method.getReturnType().getSimpleName() + " " + method.getName() + " "
            + names(method.getParameterTypes()) + " " + names(method.getExceptionTypes());
    }

    private static String names(Class<?>[] types) {
        return Arrays.toString(Arrays.stream(types).map(Class::getSimpleName).toArray());
    }

    private static void methods() {
        Set<String> open = new TreeSet<>();
        Set<String> openNames = new TreeSet<>();
        for (Method method : Quarterboard.class.getDeclaredMethods()) {
            if (!Modifier.isPrivate(method.getModifiers())) {
                CHECK.equal(method + " is public", Modifier.isPublic(method.getModifiers()), true);
                open.add(told(method));
                openNames.add(method.getName());
            }
            CHECK.equal(method + " has few parameters", method.getParameterCount() <= 7, true);
        }
        CHECK.equal("the face " + open, open.equals(new TreeSet<>(Arrays.asList(FACE))), true);
        for (Method method : Quarterboard.class.getDeclaredMethods()) {
            if (Modifier.isPrivate(method.getModifiers())) {
                CHECK.equal(method + " has a public name", openNames.contains(method.getName()), false);
            }
        }
    }

    private static void fields() {
        for (Field field : Quarterboard.class.getDeclaredFields()) {
            int modifiers = field.getModifiers();
            CHECK.equal(field + " is private", Modifier.isPrivate(modifiers), true);
            CHECK.equal(field + " is final if static",
                !Modifier.isStatic(modifiers) || Modifier.isFinal(modifiers), true);
        }
    }

    public static void main(String[] args) {
        int modifiers = Quarterboard.class.getModifiers();
        CHECK.equal("public", Modifier.isPublic(modifiers), true);
        CHECK.equal("final", Modifier.isFinal(modifiers), true);
        CHECK.equal("constructors", Quarterboard.class.getDeclaredConstructors().length, 1);
        CHECK.equal("public constructor", Quarterboard.class.getConstructors().length, 1);
        methods();
        fields();
        CHECK.end();
    }
}
