import java.lang.reflect.Constructor;
import java.lang.reflect.Field;
import java.lang.reflect.Method;
import java.lang.reflect.Modifier;
import java.util.Arrays;
import java.util.HashSet;
import java.util.Set;
import java.util.TreeSet;

/** The public face is the document's and no more, and the fields are such as LANGUAGE.md leaves. */
public final class FaceTest {
    private static int wrong = 0;

    private static void due(String what, Object got, Object want) {
        if (!got.equals(want)) {
            wrong++;
            System.out.println(what + " is " + got + ", due is " + want);
        }
    }

    private static void methods() {
        Set<String> open = new TreeSet<>();
        Set<String> openNames = new HashSet<>();
        for (Method m : QuickestFlow.class.getDeclaredMethods()) {
            if (!Modifier.isPrivate(m.getModifiers())) {
                open.add(m.toString());
                openNames.add(m.getName());
            }
        }
        due("the open methods", open, new TreeSet<>(Arrays.asList(
            "public int QuickestFlow.add(int,int,int,int)",
            "public int QuickestFlow.drop(int)",
            "public int QuickestFlow.arrived(int)",
            "public int QuickestFlow.quickest(int)",
            "public int QuickestFlow.first()",
            "public int QuickestFlow.gain(int,int)",
            "public int QuickestFlow.steady()")));
        for (Method m : QuickestFlow.class.getDeclaredMethods()) {
            boolean hidden = Modifier.isPrivate(m.getModifiers());
            due("a private method named " + m.getName(), hidden && openNames.contains(m.getName()), false);
        }
    }

    private static void fields() {
        Set<String> types = new HashSet<>(Arrays.asList("int", "long", "short", "byte", "char", "boolean",
            "int[]", "long[]", "short[]", "byte[]", "char[]", "boolean[]"));
        for (Field f : QuickestFlow.class.getDeclaredFields()) {
            String type = f.getType().getSimpleName();
            due(f.getName() + " private", Modifier.isPrivate(f.getModifiers()), true);
            due(f.getName() + " of a fit type", types.contains(type), true);
            if (Modifier.isStatic(f.getModifiers())) {
                due(f.getName() + " constant", Modifier.isFinal(f.getModifiers()), true);
                due(f.getName() + " a number", type.equals("int") || type.equals("long"), true);
            }
        }
    }

    public static void main(String[] args) {
        due("the class", Modifier.toString(QuickestFlow.class.getModifiers()), "public final");
        Constructor<?>[] makers = QuickestFlow.class.getDeclaredConstructors();
        due("constructors", Arrays.toString(makers), "[public QuickestFlow()]");
        due("nested classes", QuickestFlow.class.getDeclaredClasses().length, 0);
        methods();
        fields();
        System.out.println(wrong == 0 ? "the face is as due" : wrong + " faults in the face");
        if (wrong != 0) {
            System.exit(1);
        }
    }
}
