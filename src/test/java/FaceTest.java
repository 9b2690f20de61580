import java.lang.reflect.Constructor;
import java.lang.reflect.Field;
import java.lang.reflect.Method;
import java.lang.reflect.Modifier;
import java.util.TreeSet;

/** The public face of the document, and the rules 1, 2 and 5 of LANGUAGE.md as far as reflection shows them. */
public final class FaceTest {
    private static final Check check = new Check("FaceTest");

    public static void main(String[] args) {
        constants();
        onlyTheFaceIsVisible();
        fields();
        check.end();
    }

    private static void constants() {
        check.due("ERR_PHASE", TwoLevelMinimizer.ERR_PHASE, -1);
        check.due("ERR_CUBE", TwoLevelMinimizer.ERR_CUBE, -2);
        check.due("ERR_OUTPUTS", TwoLevelMinimizer.ERR_OUTPUTS, -3);
        check.due("ERR_FULL", TwoLevelMinimizer.ERR_FULL, -4);
        check.due("ERR_RANGE", TwoLevelMinimizer.ERR_RANGE, -5);
        check.due("OFF", TwoLevelMinimizer.OFF, 0);
        check.due("ON", TwoLevelMinimizer.ON, 1);
        check.due("DC", TwoLevelMinimizer.DC, 2);
        check.due("NOT_IMPROVED", TwoLevelMinimizer.NOT_IMPROVED, 0);
        check.due("IMPROVED", TwoLevelMinimizer.IMPROVED, 1);
        check.due("FEEDING", TwoLevelMinimizer.FEEDING, 0);
        check.due("WORKING", TwoLevelMinimizer.WORKING, 1);
    }

    private static void onlyTheFaceIsVisible() {
        Class<?> type = TwoLevelMinimizer.class;
        TreeSet<String> visible = new TreeSet<>();
        TreeSet<String> names = new TreeSet<>();
        for (Method method : type.getDeclaredMethods()) {
            if (!Modifier.isPrivate(method.getModifiers())) {
                visible.add(method.toString().replace("TwoLevelMinimizer.", ""));
                names.add(method.getName());
            }
        }
        TreeSet<String> face = new TreeSet<>();
        String[] intMethods = {
            "addOn(int,int)", "addDc(int,int)", "begin()", "expand()", "irredundant()", "reduce()", "improve()",
            "phase()", "cubeCount()", "cubeInputs(int)", "cubeOutputs(int)", "literalCount()",
            "evaluate(int,int)", "function(int,int)"
        };
        for (String method : intMethods) {
            face.add("public int " + method);
        }
        face.add("public void clear()");
        face.add("public boolean isImplicant(int,int)");
        check.due("the visible methods", visible.toString(), face.toString());

        for (Method method : type.getDeclaredMethods()) {
            if (Modifier.isPrivate(method.getModifiers())) {
                check.due("a private method named " + method.getName(), names.contains(method.getName()), false);
            }
        }
        Constructor<?>[] constructors = type.getDeclaredConstructors();
        check.due("constructors", constructors.length, 1);
        check.due("the constructor", constructors[0].toString(), "public TwoLevelMinimizer(int,int,int)");
        check.due("the class", Modifier.toString(type.getModifiers()), "public final");
        check.due("nested classes", type.getDeclaredClasses().length, 0);
        check.due("interfaces", type.getInterfaces().length, 0);
        check.due("superclass", type.getSuperclass().getName(), "java.lang.Object");
    }

    private static void fields() {
        int visible = 0;
        for (Field field : TwoLevelMinimizer.class.getDeclaredFields()) {
            int modifiers = field.getModifiers();
            Class<?> type = field.getType();
            if (!Modifier.isPrivate(modifiers)) {
                visible++;
                check.due(field.getName(), Modifier.toString(modifiers), "public static final");
                check.due(field.getName(), type.getName(), "int");
            }
            if (Modifier.isStatic(modifiers)) {
                check.due(field + " is final", Modifier.isFinal(modifiers), true);
                check.due(field + " is int or long", type == int.class || type == long.class, true);
            }
            Class<?> held = type.isArray() ? type.getComponentType() : type;
            check.due(field + " holds whole numbers", held.isPrimitive()
                    && held != float.class && held != double.class, true);
        }
        check.due("visible fields", visible, 12);
    }
}
