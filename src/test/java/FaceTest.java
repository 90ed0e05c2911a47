import java.lang.reflect.Field;
import java.lang.reflect.Method;
import java.lang.reflect.Modifier;
import java.util.ArrayList;
import java.util.Arrays;
import java.util.List;

/** The public face of the document. */
public final class FaceTest {
    private static final String[] METHODS = {
        "int again(int)", "int count(int)", "int delete(int,int)", "int drawn(int)",
        "int edge(int)", "int fault()", "int graph()", "int insert(int,int)",
        "int judge(int,long)", "int keep(int)", "int knot(int,int)", "int look(long)",
        "int missing(int)", "int nearest(int,int)", "int see(int,int,int)",
        "int share(int,int,boolean)", "int showing(int)", "int spared(int,int,int,boolean)",
        "int stamp(int,int)", "int undo()", "int unsee()", "int wipe()", "int would(int,int)",
        "int write(int)", "long seed(long)"};

    private FaceTest() {
    }

    public static void main(String[] args) {
        constants();
        methods();
        members();
        Check.end("FaceTest");
    }

    private static void yes(String what, boolean so) {
        Check.due(what, so ? 1 : 0, 1);
    }

    private static void constants() {
        Check.due("UNKNOWN", CoverOrder.UNKNOWN, -1);
        Check.due("OUTSIDE", CoverOrder.OUTSIDE, -2);
        Check.due("STATE", CoverOrder.STATE, -3);
        Check.due("FULL", CoverOrder.FULL, -4);
        Check.due("NONE", CoverOrder.NONE, -9);
    }

    private static void methods() {
        List<String> open = new ArrayList<>();
        List<String> names = new ArrayList<>();
        for (Method m : CoverOrder.class.getDeclaredMethods()) {
            if (Modifier.isPrivate(m.getModifiers()) || m.isSynthetic()) {
                continue;
            }
            yes(m + " is public and not static",
                    Modifier.isPublic(m.getModifiers()) && !Modifier.isStatic(m.getModifiers()));
            StringBuilder told = new StringBuilder();
            told.append(m.getReturnType()).append(' ').append(m.getName()).append('(');
            for (Class<?> type : m.getParameterTypes()) {
                told.append(told.charAt(told.length() - 1) == '(' ? "" : ",").append(type);
            }
            open.add(told.append(')').toString());
            names.add(m.getName());
        }
        open.sort(null);
        yes("the methods " + open, open.equals(Arrays.asList(METHODS)));
        for (Method m : CoverOrder.class.getDeclaredMethods()) {
            yes(m + " bears no public name",
                    !Modifier.isPrivate(m.getModifiers()) || !names.contains(m.getName()));
        }
    }

    private static void members() {
        yes("public and final", (CoverOrder.class.getModifiers() & (Modifier.PUBLIC | Modifier.FINAL))
                == (Modifier.PUBLIC | Modifier.FINAL));
        Check.due("constructors", CoverOrder.class.getDeclaredConstructors().length, 1);
        int constants = 0;
        for (Field f : CoverOrder.class.getDeclaredFields()) {
            int m = f.getModifiers();
            yes(f + " static and final", !Modifier.isStatic(m) || Modifier.isFinal(m));
            if (!Modifier.isPrivate(m) && !f.isSynthetic()) {
                yes(f + " is a constant", Modifier.isPublic(m) && Modifier.isStatic(m));
                constants++;
            }
        }
        Check.due("public constants", constants, 5);
        for (Class<?> inside : CoverOrder.class.getDeclaredClasses()) {
            int m = inside.getModifiers();
            yes(inside + " is static and not public",
                    Modifier.isStatic(m) && !Modifier.isPublic(m) && !Modifier.isProtected(m));
        }
    }
}
