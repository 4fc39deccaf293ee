import java.lang.reflect.Field;
import java.lang.reflect.Method;
import java.lang.reflect.Modifier;
import java.util.Set;
import java.util.TreeSet;

/** The public face of the document, and that nothing else can be seen from outside (rule 1 of LANGUAGE.md). */
public final class LanguageTest {
    private static final Check check = new Check("LanguageTest");
    private static final String FACE = """
        int board(int,int)
        int die(int)
        int link(int,int,int)
        int player(int)
        int type(int)
        int clear()
        int read()
        int rolls(int,int)
        int sets(int,int)
        int undo()
        int of(int,int)
        int about(int,int)
        int goes(int,int)
        int few(int,int)
        int home(int,int)
        int mean(int,int)
        int ahead(int,int,int)
        int rather(int,int,int)
        int without(int,int,int)
        int span(int,int,int)
        int note(int,int,int,int)
        int mark(int,int,int,int)
        int forget(int)
        int is(int)
        int look(int)
        int kinds(int)
        int ask(int)
        int choice(int,int,int)
        int evenings(int,int)
        long part(int)
        int image(int)
        int from(int)
        int status(int)
        int count(int)
        long digest()
        """;

    public static void main(String[] args) {
        face();
        members();
        check.end();
    }

    private static void face() {
        Class<?> c = SnakeLadders.class;
        check.holds("public and final", Modifier.isPublic(c.getModifiers()) && Modifier.isFinal(c.getModifiers()));
        check.due("constructors", c.getConstructors().length, 1);
        Set<String> due = new TreeSet<>(FACE.lines().toList());
        Set<String> got = new TreeSet<>();
        for (Method m : c.getDeclaredMethods()) {
            if (Modifier.isPublic(m.getModifiers())) {
                StringBuilder one = new StringBuilder(m.getReturnType() + " " + m.getName() + "(");
                for (Class<?> p : m.getParameterTypes()) {
                    one.append(one.charAt(one.length() - 1) == '(' ? "" : ",").append(p);
                }
                got.add(one.append(')').toString());
            }
        }
        check.holds("the face is " + got, got.equals(due));
        check.due("NONE", SnakeLadders.NONE, -1);
        check.due("BAD", SnakeLadders.BAD, -2);
        check.due("NO", SnakeLadders.NO, -3);
        check.due("FULL", SnakeLadders.FULL, -4);
    }

    private static void members() {
        Class<?> c = SnakeLadders.class;
        Set<String> open = new TreeSet<>();
        for (Method m : c.getDeclaredMethods()) {
            if (Modifier.isPublic(m.getModifiers())) {
                open.add(m.getName());
            }
        }
        for (Method m : c.getDeclaredMethods()) {
            int mods = m.getModifiers();
            check.holds(m + " is public or private", Modifier.isPublic(mods) || Modifier.isPrivate(mods));
            check.holds(m + " bears a name of its own", Modifier.isPublic(mods) || !open.contains(m.getName()));
        }
        for (Field f : c.getDeclaredFields()) {
            boolean constant = Set.of("NONE", "BAD", "NO", "FULL").contains(f.getName());
            check.holds(f + " is private, or a constant", constant || Modifier.isPrivate(f.getModifiers()));
            check.holds(f + " is no static state", statelessStatic(f));
        }
        for (Class<?> inside : c.getDeclaredClasses()) {
            check.holds(inside + " is static", Modifier.isStatic(inside.getModifiers()));
            for (Field f : inside.getDeclaredFields()) {
                check.holds(f + " is no static state", statelessStatic(f));
            }
            for (Method m : inside.getDeclaredMethods()) {
                check.holds(m + " bears a name of its own", !open.contains(m.getName()));
            }
        }
    }

    private static boolean statelessStatic(Field f) {
        return !Modifier.isStatic(f.getModifiers()) || Modifier.isFinal(f.getModifiers());
    }
}
