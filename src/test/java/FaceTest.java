import java.lang.reflect.Constructor;
import java.lang.reflect.Field;
import java.lang.reflect.Method;
import java.lang.reflect.Modifier;
import java.util.Arrays;
import java.util.NoSuchElementException;
import java.util.TreeSet;

/** The class has the document's face and no other member that can be seen from outside (LANGUAGE.md, rule 1). */
public final class FaceTest {
    private static final String[] FACE = {
        "int side(1)", "int player(1)", "int toss(4)", "boolean seat(4)", "boolean turn(1)", "boolean over(2)",
        "boolean ball(2)", "int feed(5)", "boolean open(4)", "boolean tear(3)", "boolean put(5)", "int mend(5)",
        "int out(4)", "int bowls(4)", "int undo(0)", "int why(0)", "int now(2) throws", "int score(3) throws",
        "int overs(4) throws", "int entry(4) throws", "int bats(4) throws", "int fields(4) throws",
        "int record(2) throws", "int image(1)", "int told(1) throws", "int check(1)", "int take(1)",
        "int list(1) throws", "long sum(1) throws"};
    private static int wrong = 0;

    public static void main(String[] args) {
        TreeSet<String> due = new TreeSet<>(Arrays.asList(FACE));
        TreeSet<String> got = new TreeSet<>();
        TreeSet<String> publicNames = new TreeSet<>();
        for (Method m : BallBook.class.getDeclaredMethods()) {
            if (!Modifier.isPrivate(m.getModifiers())) {
                got.add(faceOf(m));
                publicNames.add(m.getName());
                must(Modifier.isPublic(m.getModifiers()) && !Modifier.isStatic(m.getModifiers()), m + " is neither public nor private");
            }
        }
        must(got.equals(due), "the face is " + got);
        for (Method m : BallBook.class.getDeclaredMethods()) {
            must(!Modifier.isPrivate(m.getModifiers()) || !publicNames.contains(m.getName()), m + " bears a public name");
        }
        for (Field f : BallBook.class.getDeclaredFields()) {
            must(f.getName().equals("NONE") == Modifier.isPublic(f.getModifiers()), f.toString());
            must(f.getName().equals("NONE") || Modifier.isPrivate(f.getModifiers()), f.toString());
            must(!Modifier.isStatic(f.getModifiers()) || Modifier.isFinal(f.getModifiers()), f + " is static and not final");
        }
        Constructor<?>[] constructors = BallBook.class.getDeclaredConstructors();
        must(constructors.length == 1 && Modifier.isPublic(constructors[0].getModifiers()), "one public constructor");
        must(Modifier.isFinal(BallBook.class.getModifiers()), "the class is final");
        must(BallBook.class.getDeclaredClasses().length <= 12, "at most twelve classes");
        for (Class<?> c : BallBook.class.getDeclaredClasses()) {
            must(Modifier.isStatic(c.getModifiers()) && !Modifier.isPublic(c.getModifiers()), c + " is static and not public");
            must(c.getDeclaredFields().length <= 20, c + " has at most twenty fields");
        }
        System.out.println(wrong == 0 ? "the face is the document's" : wrong + " faults");
        if (wrong != 0) {
            System.exit(1);
        }
    }

    private static String faceOf(Method m) {
        String all = m.getReturnType() + " " + m.getName() + "(" + m.getParameterCount() + ")";
        for (Class<?> p : m.getParameterTypes()) {
            must(p == int.class, m + " takes int alone");
        }
        Class<?>[] thrown = m.getExceptionTypes();
        return thrown.length == 1 && thrown[0] == NoSuchElementException.class ? all + " throws" : all;
    }

    private static void must(boolean holds, String what) {
        if (!holds) {
            wrong++;
            System.out.println(what);
        }
    }
}
