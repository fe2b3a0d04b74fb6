import java.lang.reflect.Constructor;
import java.lang.reflect.Field;
import java.lang.reflect.Member;
import java.lang.reflect.Method;
import java.lang.reflect.Modifier;
import java.util.Set;
import java.util.TreeSet;

/** The public face: just the constants, the constructor and the methods of the document. */
public final class FaceTest {
    private static final String[] METHODS = {
        "int put(int,int,int,int)", "int take(int)", "int of(int,int)", "int unlike(int,int)", "int most(int,int)",
        "int feed(int,int)", "int ask()", "int often(int,int)", "int answer(int,int,int)", "int stone(int,int)",
        "int ofStone(int,int)", "int nameAt(int,int)", "int through(int,int,int,int)", "int looks()",
        "int firstUnlike(int,int,int)", "int price(int,int,int)", "int putPrice(int,int)", "int plan(int,int,int)",
        "int leastPlan(int,int,int)", "int goesThrough(int,int,int)", "int drift(int,int)", "int drifted(int,int)",
        "int undrift()", "int cell(int)", "int misses(int,int,int)", "int uncell()", "int key(int,int)",
        "int leastLooks(int)", "int root()", "int walk(int)", "int next(int)", "int act(int,int,int)",
        "int trace(int)", "int keep(int,int)", "int row(int,int,int)", "int set(int,int,long)",
        "long element(int,int)", "int shift(int,int,int,int,int)", "int taken(int,int)", "int things(int,int,int)",
        "int count(int)"};
    private static final Set<String> CONSTANTS = Set.of("BAD", "NOT", "FULL", "STATE", "MAYBE", "VOID");

    public static void main(String[] args) {
        methods();
        fields();
        constructors();
        nested();
        constants();
        Check.end();
    }

    private static boolean isPrivate(Member member) {
        return Modifier.isPrivate(member.getModifiers());
    }

    private static void methods() {
        Set<String> found = new TreeSet<>();
        Set<String> publicNames = new TreeSet<>();
        for (Method m : StonesAsked.class.getDeclaredMethods()) {
            if (!isPrivate(m)) {
                Check.holds(m + " is public and not static", Modifier.isPublic(m.getModifiers())
                        && !Modifier.isStatic(m.getModifiers()));
                found.add(signature(m));
                publicNames.add(m.getName());
            }
        }
        Set<String> want = new TreeSet<>(Set.of(METHODS));
        Check.holds("methods are " + found, found.equals(want));
        Check.due("41 methods, and the constructor, are 42 promises", found.size(), 41);
        for (Method m : StonesAsked.class.getDeclaredMethods()) {
            Check.holds(m + " bears no public name", !isPrivate(m) || !publicNames.contains(m.getName()));
        }
    }

    private static String signature(Method m) {
        StringBuilder text = new StringBuilder(m.getReturnType() + " " + m.getName() + "(");
        for (Class<?> type : m.getParameterTypes()) {
            text.append(text.charAt(text.length() - 1) == '(' ? "" : ",").append(type);
        }
        return text.append(")").toString();
    }

    private static void fields() {
        for (Field f : StonesAsked.class.getDeclaredFields()) {
            Check.holds(f + " is private, or a constant of the document",
                    isPrivate(f) || CONSTANTS.contains(f.getName()));
            Check.holds(f + " is final, if static",
                    !Modifier.isStatic(f.getModifiers()) || Modifier.isFinal(f.getModifiers()));
        }
    }

    private static void constructors() {
        Constructor<?>[] all = StonesAsked.class.getDeclaredConstructors();
        Check.due("constructors", all.length, 1);
        Check.due("without parameters", all[0].getParameterCount(), 0);
        Check.holds("public", Modifier.isPublic(all[0].getModifiers()));
        Check.holds("the class is public and final", Modifier.isPublic(StonesAsked.class.getModifiers())
                && Modifier.isFinal(StonesAsked.class.getModifiers()));
    }

    private static void nested() {
        for (Class<?> inside : StonesAsked.class.getDeclaredClasses()) {
            int is = inside.getModifiers();
            Check.holds(inside + " is static, and not seen from outside",
                    Modifier.isStatic(is) && !Modifier.isPublic(is) && !Modifier.isProtected(is));
            Check.holds(inside + " has some twenty fields", inside.getDeclaredFields().length <= 30);
            for (Field f : inside.getDeclaredFields()) {
                boolean isConstant = Modifier.isFinal(f.getModifiers()) && f.getType().isPrimitive();
                Check.holds(f + " is a constant, if static", !Modifier.isStatic(f.getModifiers()) || isConstant);
            }
            for (Method m : inside.getDeclaredMethods()) {
                Check.holds(m + " takes seven at most", m.getParameterCount() <= 7);
            }
        }
        Check.holds("some twelve classes", StonesAsked.class.getDeclaredClasses().length <= 12);
    }

    private static void constants() {
        Check.due("BAD", StonesAsked.BAD, -1);
        Check.due("NOT", StonesAsked.NOT, -2);
        Check.due("FULL", StonesAsked.FULL, -3);
        Check.due("STATE", StonesAsked.STATE, -5);
        Check.due("MAYBE", StonesAsked.MAYBE, -6);
        Check.due("VOID", StonesAsked.VOID, -2000000000);
    }
}
