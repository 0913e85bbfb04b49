import java.lang.reflect.Constructor;
import java.lang.reflect.Field;
import java.lang.reflect.Method;
import java.lang.reflect.Modifier;
import java.util.Set;
import java.util.TreeSet;

/** The class has the public face of the document and no other. */
public final class FaceTest {
    private static final String[] FACE = {
        "int tree(int)", "int trees(int,int,int)", "int path(int)", "int mend(int,int,int)", "int of(int,int)",
        "int feed(int)", "int law()", "int sound(int,int,int)", "int fits(int,int)", "int canBe(int,int)",
        "int twoAtOnce(int,int,int)", "int least(int,int,int)", "int gone(int,int)", "int apart(int,int)",
        "int enough(int,int)", "int tuned(int)", "int drawn(int,int,int)", "int years(int,int)", "int walk(int,int)",
        "int judge(int,int)", "int image()", "int back()", "int undo()", "int redo()", "int body(int)",
        "int act(int,int,int)", "int trace(int)", "int keep(int,int)", "int row(int,int,int)", "int put(int,int,long)",
        "long element(int,int)", "int shift(int,int,int,int,int)", "int taken(int,int)", "int count(int)"};

    private static String told(Method m) {
        StringBuilder text = new StringBuilder(m.getReturnType() + " " + m.getName() + "(");
        for (Class<?> type : m.getParameterTypes()) {
            text.append(text.charAt(text.length() - 1) == '(' ? "" : ",").append(type);
        }
        return text.append(")").toString();
    }

    public static void main(String[] args) throws Exception {
        Check check = new Check();
        int modifiers = BellTrees.class.getModifiers();
        check.holds("public and final", Modifier.isPublic(modifiers) && Modifier.isFinal(modifiers));
        Set<String> names = new TreeSet<>();
        Set<String> open = new TreeSet<>();
        for (Method m : BellTrees.class.getDeclaredMethods()) {
            if (!Modifier.isPrivate(m.getModifiers())) {
                open.add(told(m));
                names.add(m.getName());
                check.holds(m + " is public", m.getModifiers() == Modifier.PUBLIC);
            }
        }
        Set<String> due = new TreeSet<>(Set.of(FACE));
        check.holds("methods " + open + " are " + due, open.equals(due));
        Set<String> constants = new TreeSet<>();
        for (Field f : BellTrees.class.getDeclaredFields()) {
            if (!Modifier.isPrivate(f.getModifiers())) {
                constants.add(f.getName() + f.getInt(null));
                check.due(f.getName(), f.getModifiers(), Modifier.PUBLIC | Modifier.STATIC | Modifier.FINAL);
            }
        }
        check.holds("constants " + constants,
            constants.equals(new TreeSet<>(Set.of("BAD-1", "NOT-2", "FULL-3", "STATE-5", "VOID-2000000000"))));
        Constructor<?>[] constructors = BellTrees.class.getDeclaredConstructors();
        check.due("constructors", constructors.length, 1);
        check.due("the constructor", constructors[0].getModifiers(), Modifier.PUBLIC);
        check.due("its parameters", constructors[0].getParameterCount(), 0);
        noPrivateMethodBearsAPublicName(check, BellTrees.class, names);
        for (Class<?> inside : BellTrees.class.getDeclaredClasses()) {
            int of = inside.getModifiers();
            check.holds(inside + " is static", Modifier.isStatic(of) && !Modifier.isPublic(of) && !Modifier.isProtected(of));
            noPrivateMethodBearsAPublicName(check, inside, names);
        }
        check.end();
    }

    private static void noPrivateMethodBearsAPublicName(Check check, Class<?> in, Set<String> names) {
        for (Method m : in.getDeclaredMethods()) {
            boolean own = in == BellTrees.class && !Modifier.isPrivate(m.getModifiers());
            check.holds(m + " has a name of its own", own || !names.contains(m.getName()));
        }
    }
}
