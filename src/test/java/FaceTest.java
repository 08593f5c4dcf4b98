import java.lang.reflect.Constructor;
import java.lang.reflect.Field;
import java.lang.reflect.Method;
import java.lang.reflect.Modifier;
import java.util.TreeSet;

/** The class has the face that the document lists, and no other member that can be seen from outside. */
public final class FaceTest {
    private static final String[] DUE = {
            "public static final int BalloonShare.BAD_GUEST",
            "public static final int BalloonShare.BAD_PAGE",
            "public static final int BalloonShare.BAD_WORD",
            "public static final int BalloonShare.BAD_SHARES",
            "public BalloonShare(int)",
            "public int BalloonShare.write(int,int,int)",
            "public int BalloonShare.fill(int,int,int,int)",
            "public int BalloonShare.copy(int,int,int,int)",
            "public int BalloonShare.release(int,int)",
            "public int BalloonShare.cloneGuest(int,int)",
            "public int BalloonShare.shares(int,int)",
            "public void BalloonShare.tidy(int)",
            "public int BalloonShare.read(int,int)",
            "public int BalloonShare.sum(int,int)",
            "public boolean BalloonShare.same(int,int,int,int)",
            "public int BalloonShare.contents(int)",
            "public int BalloonShare.twins(int,int)"};

    public static void main(String[] args) {
        TreeSet<String> seen = new TreeSet<>();
        for (Field field : BalloonShare.class.getDeclaredFields()) {
            add(seen, field.getModifiers(), field.toString());
        }
        for (Constructor<?> constructor : BalloonShare.class.getDeclaredConstructors()) {
            add(seen, constructor.getModifiers(), constructor.toString());
        }
        for (Method method : BalloonShare.class.getDeclaredMethods()) {
            add(seen, method.getModifiers(), method.toString());
        }
        boolean right = true;
        for (String member : DUE) {
            if (!seen.remove(member)) {
                right = false;
                System.out.println("missing: " + member);
            }
        }
        for (String member : seen) {
            right = false;
            System.out.println("not in the document: " + member);
        }
        int modifiers = BalloonShare.class.getModifiers();
        if (modifiers != (Modifier.PUBLIC | Modifier.FINAL)) {
            right = false;
            System.out.println("the class is " + Modifier.toString(modifiers) + ", due is public final");
        }
        System.out.println(right ? "the face is as due" : "the face is not as due");
        if (!right) {
            System.exit(1);
        }
    }

    private static void add(TreeSet<String> seen, int modifiers, String member) {
        if (!Modifier.isPrivate(modifiers)) {
            seen.add(member);
        }
    }
}
