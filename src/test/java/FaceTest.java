import java.lang.reflect.Constructor;
import java.lang.reflect.Field;
import java.lang.reflect.Method;
import java.lang.reflect.Modifier;
import java.util.List;
import java.util.TreeSet;

/** The face of the class is that of the document, with no other visible member (LANGUAGE.md, rules 1 and 5). */
public final class FaceTest {
    private static final String[] METHODS = {
        "public boolean BinaryFunctions.load(int,long)",
        "public long BinaryFunctions.bits(int)",
        "public boolean BinaryFunctions.sqrt(int,int)",
        "public boolean BinaryFunctions.whole(int,int,int)",
        "public boolean BinaryFunctions.left(int,int,int,boolean)",
        "public int BinaryFunctions.quotient()",
        "public boolean BinaryFunctions.neighbour(int,int,int)",
        "public boolean BinaryFunctions.scale(int,int,int)",
        "public int BinaryFunctions.exponent(int)",
        "public int BinaryFunctions.compare(int,int)",
        "public int BinaryFunctions.sort(int)",
        "public int BinaryFunctions.flags()",
        "public void BinaryFunctions.clear()",
    };

    private FaceTest() {
    }

    public static void main(String[] args) {
        Check.due("modifiers", BinaryFunctions.class.getModifiers(), Modifier.PUBLIC | Modifier.FINAL);
        constructors();
        methods();
        fields();
        Check.finish("FaceTest");
    }

    private static void constructors() {
        Constructor<?>[] all = BinaryFunctions.class.getDeclaredConstructors();
        Check.due("number of constructors", all.length, 1);
        Check.due("constructor", all[0].toString(), "public BinaryFunctions()");
    }

    private static void methods() {
        TreeSet<String> visible = new TreeSet<>();
        TreeSet<String> names = new TreeSet<>();
        for (Method method : BinaryFunctions.class.getDeclaredMethods()) {
            if (!Modifier.isPrivate(method.getModifiers())) {
                visible.add(method.toString());
                names.add(method.getName());
            }
        }
        Check.due("visible methods", visible.toString(), new TreeSet<>(List.of(METHODS)).toString());
        for (Method method : BinaryFunctions.class.getDeclaredMethods()) {
            boolean isPrivate = Modifier.isPrivate(method.getModifiers());
            Check.due("private method named as a public one: " + method, isPrivate && names.contains(method.getName()), false);
        }
    }

    private static void fields() {
        for (Field field : BinaryFunctions.class.getDeclaredFields()) {
            int modifiers = field.getModifiers();
            Check.due("private: " + field, Modifier.isPrivate(modifiers), true);
            Check.due("static but not final: " + field, Modifier.isStatic(modifiers) && !Modifier.isFinal(modifiers), false);
        }
    }
}
