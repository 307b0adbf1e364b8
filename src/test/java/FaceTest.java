import java.lang.reflect.Constructor;
import java.lang.reflect.Field;
import java.lang.reflect.Method;
import java.lang.reflect.Modifier;
import java.util.Arrays;
import java.util.TreeSet;

/** The public face: just the members of the document, and none that other code could see besides. */
public final class FaceTest {
    private static final String[] FACE = {
        "boolean friend(int,int,boolean)", "int age(int)", "int come()", "int cost(int)", "int distance(int)",
        "int entries(int)", "int entry(int,int,int)", "int first(int,int)", "int firsts(int)", "int known()",
        "int make()", "int number(int)", "int pass(int)", "int port(int,int)", "int time()",
        "int told(int,int,int)", "void begin(int,int)", "StateBench(int)", "int NONE"};

    public static void main(String[] args) {
        TreeSet<String> due = new TreeSet<>(Arrays.asList(FACE));
        Check.due("the face", visibleMembers().toString(), due.toString());
        Check.due("final", Modifier.isFinal(StateBench.class.getModifiers()), true);
        for (Class<?> inside : StateBench.class.getDeclaredClasses()) {
            Check.due(inside + " is static", Modifier.isStatic(inside.getModifiers()), true);
        }
        Check.end();
    }

    private static TreeSet<String> visibleMembers() {
        TreeSet<String> seen = new TreeSet<>();
        for (Method m : StateBench.class.getDeclaredMethods()) {
            if (!Modifier.isPrivate(m.getModifiers())) {
                seen.add(m.getReturnType() + " " + m.getName() + parameters(m.getParameterTypes()));
            }
        }
        for (Constructor<?> c : StateBench.class.getDeclaredConstructors()) {
            if (!Modifier.isPrivate(c.getModifiers())) {
                seen.add("StateBench" + parameters(c.getParameterTypes()));
            }
        }
        for (Field f : StateBench.class.getDeclaredFields()) {
            if (!Modifier.isPrivate(f.getModifiers())) {
                seen.add(f.getType() + " " + f.getName());
            }
        }
        return seen;
    }

    private static String parameters(Class<?>[] types) {
        StringBuilder text = new StringBuilder("(");
        for (int i = 0; i < types.length; i++) {
            text.append(i == 0 ? "" : ",").append(types[i]);
        }
        return text.append(")").toString();
    }
}
