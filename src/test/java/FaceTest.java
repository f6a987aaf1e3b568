import java.lang.reflect.Constructor;
import java.lang.reflect.Field;
import java.lang.reflect.Method;
import java.lang.reflect.Modifier;
import java.util.TreeSet;

/** The public face is the document's and nothing more (LANGUAGE.md, rules 1 and 5). */
public final class FaceTest {
    private static final String METHODS = "int both(int,int) int clear() int count(int) int flows(int) int heap(int,int,int,int,int) "
        + "int heaps(int,int,int,int) int level(int,int) int most(int,int,int) int pair(int,int,int) int raised(int) int ran(int) "
        + "int read() int run(int) int safe(int,int) int statement(int,int) int stop(int,int,int) int tape(int,int) "
        + "int together(int,int,int,int) int tooMuch() int type(long,int) ";

    public static void main(String[] args) {
        Class<?> c = WatchedPrograms.class;
        yes("public and final", Modifier.isPublic(c.getModifiers()) && Modifier.isFinal(c.getModifiers()));
        TreeSet<String> found = new TreeSet<>();
        TreeSet<String> names = new TreeSet<>();
        for (Method m : c.getDeclaredMethods()) {
            if (Modifier.isPrivate(m.getModifiers())) continue;
            yes(m.getName() + " is public and of objects", m.getModifiers() == Modifier.PUBLIC);
            found.add(signature(m));
            names.add(m.getName());
        }
        StringBuilder all = new StringBuilder();
        for (String s : found) all.append(s).append(' ');
        yes("the methods are " + all, all.toString().equals(METHODS));
        Constructor<?>[] constructors = c.getDeclaredConstructors();
        yes("one constructor", constructors.length == 1 && constructors[0].getParameterCount() == 0
            && Modifier.isPublic(constructors[0].getModifiers()));
        fields(c, true);
        for (Class<?> inside : c.getDeclaredClasses()) {
            yes(inside + " is static", Modifier.isStatic(inside.getModifiers()) && !Modifier.isPublic(inside.getModifiers()));
            fields(inside, false);
            for (Method m : inside.getDeclaredMethods()) yes(m + " has a name of its own", !names.contains(m.getName()));
        }
        for (Method m : c.getDeclaredMethods()) {
            yes(m + ": a private one has a name of its own", !Modifier.isPrivate(m.getModifiers()) || !names.contains(m.getName()));
        }
        Check.due("BAD", WatchedPrograms.BAD, -1);
        Check.due("STATE", WatchedPrograms.STATE, -2);
        Check.due("FULL", WatchedPrograms.FULL, -3);
        Check.due("NONE", WatchedPrograms.NONE, -9);
        Check.end("FaceTest");
    }

    private static void fields(Class<?> c, boolean outer) {
        TreeSet<String> shown = new TreeSet<>();
        int many = 0;
        for (Field f : c.getDeclaredFields()) {
            if (!Modifier.isPrivate(f.getModifiers())) shown.add(f.getName());
            if (Modifier.isStatic(f.getModifiers())) yes(f + " is final", Modifier.isFinal(f.getModifiers()));
            else many++;
        }
        yes(c + " has some twenty fields at most", many <= 20);
        if (outer) yes("the constants are " + shown, shown.toString().equals("[BAD, FULL, NONE, STATE]"));
    }

    private static String signature(Method m) {
        StringBuilder s = new StringBuilder(m.getReturnType() + " " + m.getName() + "(");
        for (int i = 0; i < m.getParameterCount(); i++) s.append(i == 0 ? "" : ",").append(m.getParameterTypes()[i]);
        return s.append(')').toString();
    }

    private static void yes(String what, boolean holds) {
        Check.due(what, holds ? 1 : 0, 1);
    }
}
