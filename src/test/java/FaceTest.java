import java.lang.reflect.Constructor;
import java.lang.reflect.Field;
import java.lang.reflect.Method;
import java.lang.reflect.Modifier;
import java.util.Arrays;
import java.util.List;
import java.util.Set;
import java.util.TreeSet;

/** The public face: the document's constants, constructor and methods, and nothing else that is not private. */
public final class FaceTest {
    private static final Check CHECK = new Check("FaceTest");
    private static final List<String> FACE = List.of("write 1", "wipe 0", "fault 0", "lay 0", "guest 2", "dish 2",
            "worth 2", "pass 1", "veto 2", "order 1", "undo 0", "most 1", "fair 1", "beats 2", "champion 0",
            "middle 0", "struck 1", "two 1", "houses 1", "waits 2", "heard 3", "forget 0", "may 1", "suits 1",
            "against 2", "ask 1", "wheel 2", "evening 3", "keep 0", "back 0", "count 1");

    public static void main(String[] args) {
        CHECK.due("BAD", NoneMinds.BAD, -1);
        CHECK.due("NO", NoneMinds.NO, -2);
        CHECK.due("FULL", NoneMinds.FULL, -3);
        CHECK.due("NONE", NoneMinds.NONE, -4);
        CHECK.due("the class is public and final", NoneMinds.class.getModifiers(), Modifier.PUBLIC | Modifier.FINAL);
        fields();
        methods();
        Constructor<?>[] constructors = NoneMinds.class.getDeclaredConstructors();
        CHECK.due("constructors", constructors.length, 1);
        CHECK.holds("the constructor is public", Modifier.isPublic(constructors[0].getModifiers()));
        CHECK.due("what it takes", constructors[0].getParameterCount(), 0);
        inside();
        CHECK.finish();
    }

    private static void inside() {
        int how = Modifier.PUBLIC | Modifier.PROTECTED;
        for (Class<?> inside : NoneMinds.class.getDeclaredClasses()) {
            CHECK.holds(inside + " is static", Modifier.isStatic(inside.getModifiers()));
            CHECK.due(inside + " is private or seen in the package", inside.getModifiers() & how, 0);
            own(inside);
        }
        own(NoneMinds.class);
    }

    /** Some twenty fields at most; what is static is a constant of the types that the language leaves. */
    private static void own(Class<?> type) {
        int fields = 0;
        for (Field field : type.getDeclaredFields()) {
            if (field.isSynthetic()) continue;
            if (!Modifier.isStatic(field.getModifiers())) {
                fields++;
                continue;
            }
            CHECK.holds(field + " is final", Modifier.isFinal(field.getModifiers()));
            CHECK.holds(field + " is of a type for constants", field.getType() == type || List.of(int.class, long.class,
                    boolean.class, char.class, String.class, int[].class, long[].class, char[].class, byte[].class)
                    .contains(field.getType()));
        }
        CHECK.holds(type + " has some twenty fields at most: " + fields, fields <= 20);
    }

    private static void fields() {
        Set<String> open = new TreeSet<>();
        for (Field field : NoneMinds.class.getDeclaredFields()) {
            int how = field.getModifiers();
            if (!Modifier.isPrivate(how)) open.add(field.getName());
        }
        CHECK.holds("constants: " + open, open.equals(new TreeSet<>(Arrays.asList("BAD", "NO", "FULL", "NONE"))));
    }

    private static void methods() {
        Set<String> open = new TreeSet<>();
        Set<String> names = new TreeSet<>();
        for (String one : FACE) names.add(one.substring(0, one.indexOf(' ')));
        for (Method method : NoneMinds.class.getDeclaredMethods()) {
            if (method.isSynthetic()) continue;
            if (Modifier.isPrivate(method.getModifiers())) {
                CHECK.holds(method + " bears no public name", !names.contains(method.getName()));
                continue;
            }
            open.add(method.getName() + " " + method.getParameterCount());
            CHECK.due(method + " is public and nothing else", method.getModifiers(), Modifier.PUBLIC);
            CHECK.holds(method + " answers an int", method.getReturnType() == int.class);
            for (Class<?> type : method.getParameterTypes()) CHECK.holds(method + " takes ints", type == int.class);
        }
        CHECK.holds("methods: " + open, open.equals(new TreeSet<>(FACE)));
    }
}
