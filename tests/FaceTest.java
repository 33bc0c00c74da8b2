import java.lang.reflect.Constructor;
import java.lang.reflect.Field;
import java.lang.reflect.Method;
import java.lang.reflect.Modifier;
import java.util.Arrays;
import java.util.HashSet;
import java.util.Set;
import java.util.TreeSet;

/** The public face is the document's, and the class has no other that can be seen. */
public final class FaceTest {
    private static final String[] FACE = {
        "int towns(int)", "int road(int,int,int,long,long,long,int)", "int close(int)",
        "long toll(int,long)", "long of(int,int)", "long cost(int,int,int)",
        "int drivers(int,int,int)", "int driversOf(int,int)", "int feed(int)", "int clear()",
        "int roads()", "int ways(int)", "int way(int,int,int)", "int is(int)", "int load(int,int)",
        "int on(int,int,int)", "int steps(int)", "long total(int)", "long price(int,int,int,int)",
        "long mean(int,int,int)", "int shown(int,int)", "long taken(int)", "int busy(int,int)",
        "long best()", "long worse(int,int)", "long without(int,int)", "int paradox(int,int)",
        "int paradoxes(int)", "long adding(int,int,int,long,long)", "int fix()", "int free()",
        "int lay(int,int,int)", "int judge(int,int)", "int tray(int,int,int)",
        "int lays(int,int,int)", "long laid(int,int,int)", "int like(int,int)", "long told(int)",
        "int list(int,int)", "int set(int,int,long)", "long get(int,int)", "int image()",
        "int undo()"};

    public static void main(String[] args) throws Exception {
        Set<String> names = new HashSet<>();
        Set<String> found = new TreeSet<>();
        for (Method m : TollWays.class.getDeclaredMethods()) {
            if (Modifier.isPublic(m.getModifiers())) {
                found.add(signature(m));
                names.add(m.getName());
            } else {
                Check.that(m.getName() + " is private", Modifier.isPrivate(m.getModifiers()));
            }
        }
        Check.that("methods " + found, found.equals(new TreeSet<>(Arrays.asList(FACE))));
        Check.that("final", Modifier.isFinal(TollWays.class.getModifiers()));
        Constructor<?>[] made = TollWays.class.getDeclaredConstructors();
        Check.due("constructors", 1, made.length);
        Check.due("their parameters", 0, made[0].getParameterCount());
        checkOwnNames(TollWays.class, names);
        checkFields();
        checkClasses(names);
        Check.finish();
    }

    private static String signature(Method m) {
        StringBuilder text = new StringBuilder(m.getReturnType().getName());
        text.append(' ').append(m.getName()).append('(');
        for (int k = 0; k < m.getParameterCount(); k++) {
            text.append(k == 0 ? "" : ",").append(m.getParameterTypes()[k].getName());
        }
        return text.append(')').toString();
    }

    private static void checkOwnNames(Class<?> c, Set<String> names) {
        for (Method m : c.getDeclaredMethods()) {
            boolean isFace = c == TollWays.class && Modifier.isPublic(m.getModifiers());
            Check.that(c.getName() + "." + m.getName() + " is no name of the face",
                    isFace || !names.contains(m.getName()));
            Check.that(m.getName() + " has seven parameters at most", m.getParameterCount() <= 7);
        }
    }

    private static void checkFields() throws Exception {
        int open = 0;
        for (Field f : TollWays.class.getDeclaredFields()) {
            if (Modifier.isPublic(f.getModifiers())) {
                open++;
                Check.that(f.getName() + " is constant",
                        Modifier.isStatic(f.getModifiers()) && Modifier.isFinal(f.getModifiers()));
            } else {
                Check.that(f.getName() + " is private", Modifier.isPrivate(f.getModifiers()));
            }
        }
        Check.due("public constants", 6, open);
        Check.due("NO", Long.MIN_VALUE, TollWays.class.getField("NO").getLong(null));
        Check.due("NONE", -1, TollWays.NONE);
        Check.due("BAD", -2, TollWays.BAD);
        Check.due("STATE", -3, TollWays.STATE);
        Check.due("FULL", -4, TollWays.FULL);
        Check.due("OVER", -6, TollWays.OVER);
    }

    private static void checkClasses(Set<String> names) {
        Class<?>[] inside = TollWays.class.getDeclaredClasses();
        Check.that("twelve classes at most", inside.length + 1 <= 12);
        for (Class<?> c : inside) {
            Check.that(c.getName() + " is static", Modifier.isStatic(c.getModifiers()));
            Check.that(c.getName() + " is not public", !Modifier.isPublic(c.getModifiers()));
            checkOwnNames(c, names);
            for (Field f : c.getDeclaredFields()) {
                Check.that(f.getName() + " is no static state", !Modifier.isStatic(f.getModifiers()));
            }
        }
    }
}
