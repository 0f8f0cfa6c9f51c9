import java.lang.reflect.Constructor;
import java.lang.reflect.Field;
import java.lang.reflect.Method;
import java.lang.reflect.Modifier;
import java.util.Arrays;
import java.util.Set;
import java.util.TreeSet;

/** The public face is the document's, and every other member is private (LANGUAGE.md, rules 1, 2, 5 and 10). */
public final class FaceTest {
    private static final Set<String> FACE = new TreeSet<>(Arrays.asList(
        "public static final int BAD_ARG",
        "public static final int FULL",
        "public LoopPipeliner()",
        "public int LoopPipeliner.load(int,int)",
        "public int LoopPipeliner.store(int,int)",
        "public int LoopPipeliner.apply(int,int,int,int)",
        "public int LoopPipeliner.constant(int,int)",
        "public int LoopPipeliner.unappend()",
        "public void LoopPipeliner.clear()",
        "public int LoopPipeliner.size()",
        "public int LoopPipeliner.set(int,int)",
        "public int LoopPipeliner.get(int)",
        "public int LoopPipeliner.put(int,int)",
        "public int LoopPipeliner.cell(int)",
        "public int LoopPipeliner.ramp(int,int)",
        "public int LoopPipeliner.run(int)",
        "public int LoopPipeliner.digest()",
        "public int LoopPipeliner.mode(int)"));

    private static final Checks checks = new Checks();

    private static Set<String> openMembers() {
        Set<String> open = new TreeSet<>();
        for (Field field : LoopPipeliner.class.getDeclaredFields()) {
            if (!Modifier.isPrivate(field.getModifiers())) {
                open.add(Modifier.toString(field.getModifiers()) + " " + field.getType() + " " + field.getName());
            }
        }
        for (Constructor<?> made : LoopPipeliner.class.getDeclaredConstructors()) {
            if (!Modifier.isPrivate(made.getModifiers())) {
                open.add(made.toString());
            }
        }
        for (Method method : LoopPipeliner.class.getDeclaredMethods()) {
            if (!Modifier.isPrivate(method.getModifiers())) {
                open.add(method.toString());
            }
        }
        return open;
    }

    private static void privateMethods() {
        Set<String> openNames = new TreeSet<>();
        for (Method method : LoopPipeliner.class.getMethods()) {
            openNames.add(method.getName());
        }
        for (Method method : LoopPipeliner.class.getDeclaredMethods()) {
            if (Modifier.isPrivate(method.getModifiers())) {
                checks.holds(method.getName() + " is no public method's name", !openNames.contains(method.getName()));
            }
            checks.holds(method.getName() + " answers no array", !method.getReturnType().isArray());
            checks.holds(method.getName() + " takes at most seven", method.getParameterCount() <= 7);
        }
    }

    private static void fields() {
        int held = 0;
        for (Field field : LoopPipeliner.class.getDeclaredFields()) {
            Class<?> type = field.getType();
            Class<?> number = type.isArray() ? type.getComponentType() : type;
            checks.holds(field.getName() + " is of numbers", number.isPrimitive() && number != float.class && number != double.class);
            if (Modifier.isStatic(field.getModifiers())) {
                checks.holds(field.getName() + " is a constant", Modifier.isFinal(field.getModifiers())
                    && (type == int.class || type == long.class));
            } else {
                held++;
            }
        }
        checks.holds("at most forty fields", held <= 40);
    }

    public static void main(String[] args) {
        Class<?> program = LoopPipeliner.class;
        Set<String> open = openMembers();
        checks.holds("the face is the document's: " + open, open.equals(FACE));
        checks.holds("public and final", Modifier.isPublic(program.getModifiers()) && Modifier.isFinal(program.getModifiers()));
        checks.holds("extends and implements nothing",
            program.getSuperclass() == Object.class && program.getInterfaces().length == 0);
        checks.holds("no nested class", program.getDeclaredClasses().length == 0);
        checks.holds("no package", program.getPackageName().isEmpty());
        privateMethods();
        fields();
        checks.end("FaceTest");
    }
}
