import java.lang.reflect.Constructor;
import java.lang.reflect.Field;
import java.lang.reflect.Method;
import java.lang.reflect.Modifier;
import java.util.Set;
import java.util.TreeSet;

/** The class has the face of the document, and no other member that can be seen from outside. */
public final class FaceTest {
    private static final String NO_SUCH = " throws java.util.NoSuchElementException";
    private static final String ILLEGAL = " throws java.lang.IllegalArgumentException";
    private static final String BOTH = NO_SUCH + ",java.lang.IllegalArgumentException";
    private static final String[] METHODS = {
        "int feed(int,int,int,int,int)", "int load(int)" + ILLEGAL, "int errorPosition()",
        "int size(int)" + NO_SUCH, "int gate(int,int)" + NO_SUCH, "int value(int,int,int)" + NO_SUCH,
        "int stateAt(int,int)" + NO_SUCH, "long wave(int,int)" + NO_SUCH, "int changes(int,int)" + NO_SUCH,
        "int quietFrom(int,int)" + NO_SUCH, "int shortest(int,int)" + NO_SUCH, "int wrong(int)" + NO_SUCH,
        "int firstWrong(int)" + NO_SUCH, "int allWrong()", "int worst()", "int dependsOn(int)" + NO_SUCH,
        "int touches(int)" + NO_SUCH, "int longest(int)" + NO_SUCH, "int pulse(int,int,int)" + NO_SUCH,
        "int dispute(int,int)" + NO_SUCH, "int disputes(int)" + ILLEGAL, "int cost(int,int,int)" + BOTH,
        "int gain(int,int,int)" + BOTH, "int bestReplay()", "int misjudged()", "double excess()",
        "float settledShare()", "int open(int,int,int,boolean)" + BOTH, "int judge(int)" + NO_SUCH,
        "int appeal(int)" + NO_SUCH, "int accept(int)" + NO_SUCH, "int replay(int,int,int)" + BOTH,
        "int setDelay(int,int,int)" + BOTH, "int toggle(int,int)" + BOTH, "int deposit(int,int)" + ILLEGAL,
        "int setLimit(int)" + ILLEGAL, "int format(int,int)" + NO_SUCH, "int formattedByte(int)",
        "int undoCount()", "int undo()", "void saveSnapshot()", "boolean restoreSnapshot()",
        "int query(int)" + ILLEGAL,
    };

    public static void main(String[] args) {
        Class<?> face = GlitchCourt.class;
        Due.equal("the class", Modifier.toString(face.getModifiers()), "public final");
        Due.equal("its constructors", constructors(face), Set.of("public GlitchCourt()"));
        Set<String> due = new TreeSet<>();
        for (String method : METHODS) {
            due.add("public " + method);
        }
        Due.equal("its methods", methods(face), due);
        Due.equal("its fields", fields(face),
                Set.of("public static final int HIDDEN", "public static final int NONE"));
        inside(face);
        Due.close("FaceTest");
    }

    private static Set<String> constructors(Class<?> face) {
        Set<String> seen = new TreeSet<>();
        for (Constructor<?> each : face.getDeclaredConstructors()) {
            if (!each.isSynthetic()) {
                seen.add(each.toString());
            }
        }
        return seen;
    }

    private static Set<String> methods(Class<?> face) {
        Set<String> names = new TreeSet<>();
        Set<String> seen = new TreeSet<>();
        for (Method each : face.getDeclaredMethods()) {
            if (!Modifier.isPrivate(each.getModifiers()) && !each.isSynthetic()) {
                seen.add(each.toString().replace("GlitchCourt.", ""));
                names.add(each.getName());
            }
        }
        for (Method each : face.getDeclaredMethods()) {
            if (Modifier.isPrivate(each.getModifiers())) {
                Due.equal("private " + each.getName() + " bears a public name", names.contains(each.getName()), false);
            }
        }
        return seen;
    }

    private static Set<String> fields(Class<?> face) {
        Set<String> seen = new TreeSet<>();
        for (Field each : face.getDeclaredFields()) {
            if (!Modifier.isPrivate(each.getModifiers()) && !each.isSynthetic()) {
                seen.add(each.toString().replace("GlitchCourt.", ""));
            }
        }
        return seen;
    }

    private static void inside(Class<?> face) {
        Due.equal("at most twelve classes", face.getDeclaredClasses().length < 12, true);
        for (Class<?> each : face.getDeclaredClasses()) {
            Due.equal(each.getName() + " is static", Modifier.isStatic(each.getModifiers()), true);
            Due.equal(each.getName() + " is hidden",
                    Modifier.isPublic(each.getModifiers()) || Modifier.isProtected(each.getModifiers()), false);
        }
    }
}
