import java.lang.reflect.Member;
import java.lang.reflect.Modifier;
import java.util.Arrays;
import java.util.TreeSet;

/** The public face: just the members of the document, and none that other code could see besides. */
public final class FaceTest {
    // As the machine writes them, without the names of packages and of the class before each member.
    private static final String[] FACE = {
        "public static final int NONE",
        "public StateBench(int)",
        "public int port(int,int) throws IllegalArgumentException,IllegalStateException",
        "public boolean friend(int,int,boolean) throws IllegalArgumentException,IllegalStateException",
        "public void begin(int,int) throws IllegalArgumentException",
        "public int entry(int,int,int) throws IllegalArgumentException,IllegalStateException",
        "public int come() throws IllegalStateException",
        "public int pass(int) throws IllegalArgumentException,IllegalStateException",
        "public int make()",
        "public int number(int) throws IllegalArgumentException",
        "public int told(int,int,int) throws IllegalArgumentException,IndexOutOfBoundsException",
        "public int entries(int) throws IllegalArgumentException",
        "public int age(int) throws IllegalArgumentException",
        "public int distance(int) throws IllegalArgumentException",
        "public int cost(int) throws IllegalArgumentException",
        "public int firsts(int) throws IllegalArgumentException",
        "public int first(int,int) throws IllegalArgumentException,IndexOutOfBoundsException",
        "public int known()",
        "public int time()"};

    public static void main(String[] args) {
        TreeSet<String> due = new TreeSet<>(Arrays.asList(FACE));
        Check.due("the face", String.join("\n", visibleMembers()), String.join("\n", due));
        Check.due("the class", Modifier.toString(StateBench.class.getModifiers()), "public final");
        for (Class<?> inside : StateBench.class.getDeclaredClasses()) {
            Check.due(inside + " is static", Modifier.isStatic(inside.getModifiers()), true);
        }
        Check.end();
    }

    private static TreeSet<String> visibleMembers() {
        TreeSet<String> seen = new TreeSet<>();
        addVisible(seen, StateBench.class.getDeclaredFields());
        addVisible(seen, StateBench.class.getDeclaredConstructors());
        addVisible(seen, StateBench.class.getDeclaredMethods());
        return seen;
    }

    private static void addVisible(TreeSet<String> seen, Member[] members) {
        for (Member member : members) {
            if (!Modifier.isPrivate(member.getModifiers())) {
                seen.add(member.toString().replace("StateBench.", "").replace("java.lang.", ""));
            }
        }
    }
}
