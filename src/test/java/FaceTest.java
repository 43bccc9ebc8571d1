import java.lang.reflect.Constructor;
import java.lang.reflect.Field;
import java.lang.reflect.Method;
import java.lang.reflect.Modifier;
import java.util.Set;
import java.util.TreeSet;

/** The public face: every member of the document, and no other member that is not private. */
public final class FaceTest {
    private static final String[] FACE = {
        "public static final int BAD",
        "public static final int NONE",
        "public BimatrixGames(int,int)",
        "public boolean BimatrixGames.pay(int,int,int)",
        "public int BimatrixGames.paid(int,int)",
        "public int BimatrixGames.pure()",
        "public int BimatrixGames.equilibria()",
        "public int BimatrixGames.part(int,int,int)",
        "public int BimatrixGames.whole(int,int)",
        "public int BimatrixGames.getsTop(int,int)",
        "public int BimatrixGames.getsBottom(int,int)",
        "public int BimatrixGames.sureTop(int)",
        "public int BimatrixGames.sureBottom(int)",
        "public int BimatrixGames.replies(int)",
        "public int BimatrixGames.left()",
        "public void BimatrixGames.exchange()",
    };

    private static int wrong = 0;

    private static void check(boolean holds, String what) {
        if (!holds) {
            wrong++;
            System.out.println("not so: " + what);
        }
    }

    public static void main(String[] args) {
        Class<?> type = BimatrixGames.class;
        Set<String> due = new TreeSet<>(Set.of(FACE));
        Set<String> seen = new TreeSet<>();
        for (Field f : type.getDeclaredFields()) {
            if (!Modifier.isPrivate(f.getModifiers())) {
                seen.add(Modifier.toString(f.getModifiers()) + " " + f.getType() + " " + f.getName());
            }
        }
        for (Constructor<?> c : type.getDeclaredConstructors()) {
            if (!Modifier.isPrivate(c.getModifiers())) {
                seen.add(c.toString());
            }
        }
        for (Method m : type.getDeclaredMethods()) {
            if (!Modifier.isPrivate(m.getModifiers())) {
                seen.add(m.toString());
            }
        }
        check(seen.equals(due), "the visible members are " + due + " but they are " + seen);
        check(Modifier.isPublic(type.getModifiers()) && Modifier.isFinal(type.getModifiers()), "public and final");
        check(type.getSuperclass() == Object.class && type.getInterfaces().length == 0, "extends nothing");
        check(type.getDeclaredClasses().length == 0, "no nested class");
        check(BimatrixGames.BAD == -1000000, "BAD is -1000000");
        check(BimatrixGames.NONE == -1000001, "NONE is -1000001");
        System.out.println(wrong == 0 ? "the face is as due" : wrong + " things are not as due");
        if (wrong != 0) {
            System.exit(1);
        }
    }
}
