import java.lang.reflect.Member;
import java.lang.reflect.Method;
import java.lang.reflect.Modifier;
import java.util.ArrayList;
import java.util.Arrays;
import java.util.TreeSet;

/** The class has the document's face, and no member beside it that others can see. */
public final class FaceTest {
    private static final String[] FACE = {
        "public static final int GrowingTiles.NONE",
        "public GrowingTiles()",
        "public boolean GrowingTiles.glue(int,int)",
        "public int GrowingTiles.piece(int,int,int,int,int,int)",
        "public int GrowingTiles.feed(int,int,int,int,int)",
        "public int GrowingTiles.set(int)",
        "public boolean GrowingTiles.warmth(int)",
        "public int GrowingTiles.clear()",
        "public boolean GrowingTiles.seed(int,int,int)",
        "public boolean GrowingTiles.may(int,int,int)",
        "public int GrowingTiles.hold(int,int,int)",
        "public boolean GrowingTiles.come(int,int,int)",
        "public boolean GrowingTiles.go(int,int)",
        "public boolean GrowingTiles.force(int,int,int)",
        "public int GrowingTiles.choices()",
        "public int GrowingTiles.choice(int,int)",
        "public void GrowingTiles.draw(long)",
        "public int GrowingTiles.grow(int)",
        "public int GrowingTiles.at(int,int)",
        "public int GrowingTiles.of(int,int,int)",
        "public int GrowingTiles.walk(int)",
        "public int GrowingTiles.ways(int)",
        "public int GrowingTiles.way(int,int,int)",
        "public int GrowingTiles.orderly()",
        "public int GrowingTiles.rule(int,int,int,int,int,int)",
        "public int GrowingTiles.row(int,int)",
        "public int GrowingTiles.undo(int)",
        "public boolean GrowingTiles.keep(int)",
        "public boolean GrowingTiles.back(int)",
        "public int GrowingTiles.about(int)",
    };

    public static void main(String[] args) {
        Due due = new Due();
        TreeSet<String> seen = new TreeSet<>();
        collect(seen, GrowingTiles.class.getDeclaredFields());
        collect(seen, GrowingTiles.class.getDeclaredConstructors());
        collect(seen, GrowingTiles.class.getDeclaredMethods());
        TreeSet<String> wanted = new TreeSet<>(Arrays.asList(FACE));
        for (String member : wanted) {
            due.is("has " + member, seen.contains(member), true);
        }
        for (String member : seen) {
            due.is("wanted " + member, wanted.contains(member), true);
        }
        int modifiers = GrowingTiles.class.getModifiers();
        due.is("public and final", Modifier.isPublic(modifiers) && Modifier.isFinal(modifiers), true);
        for (Class<?> inside : GrowingTiles.class.getDeclaredClasses()) {
            due.is("static " + inside, Modifier.isStatic(inside.getModifiers()), true);
        }
        checkPrivateNames(due);
        due.is("NONE", GrowingTiles.NONE, -1);
        due.end();
    }

    /** No private method bears the name of a public one. */
    private static void checkPrivateNames(Due due) {
        TreeSet<String> publicNames = new TreeSet<>();
        for (Method method : GrowingTiles.class.getDeclaredMethods()) {
            if (Modifier.isPublic(method.getModifiers())) {
                publicNames.add(method.getName());
            }
        }
        ArrayList<Class<?>> all = new ArrayList<>(Arrays.asList(GrowingTiles.class.getDeclaredClasses()));
        all.add(GrowingTiles.class);
        for (Class<?> one : all) {
            for (Method method : one.getDeclaredMethods()) {
                boolean shadows = !Modifier.isPublic(method.getModifiers()) && publicNames.contains(method.getName());
                due.is("the name of " + method, shadows, false);
            }
        }
    }

    private static void collect(TreeSet<String> seen, Member[] members) {
        for (Member member : members) {
            if (!Modifier.isPrivate(member.getModifiers()) && !member.isSynthetic()) {
                seen.add(member.toString());
            }
        }
    }
}
