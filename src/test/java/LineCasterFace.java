import java.lang.reflect.Constructor;
import java.lang.reflect.Field;
import java.lang.reflect.Method;
import java.lang.reflect.Modifier;
import java.util.Set;
import java.util.TreeSet;

/** The class shows the document's face and nothing else (LANGUAGE.md, rules 1 and 5). */
public final class LineCasterFace {
    private static final String[] METHODS = {
        "letter(int,int,int)", "place(int,int,int)", "rails(int,int,int)", "set(int,int)", "falls(int)",
        "astray()", "order(int)", "lost(int,int)", "mould(int,int)", "told(int,int)", "wear(int,int)",
        "home(int)", "channel(int,int)", "key(int)", "band()", "ticks(int)", "line(int)", "state()",
        "thick(int)", "cast()", "clear()", "slug(int,int)", "count(int)", "comes(int,int,int,int,int,int)",
        "turned(int,int,int,int,int)", "waits(int,int,int,int)", "gap(int,int,int,int)", "type(long,int)",
        "plays(int)", "risk(int)", "better(int)", "sheet(int,int,int)", "drop(int)", "item(int,int,int,int)",
        "copy(int,int,int,int,int)"};
    private static final String[] CONSTANTS = {"BAD", "NOT", "FULL", "NONE", "NULL", "CAST", "INDEX", "SIZE"};
    private static final int[] VALUES = {-1, -2, -3, -4, -11, -12, -13, -14};
    private static int wrong = 0;

    public static void main(String[] args) throws ReflectiveOperationException {
        int modifiers = LineCaster.class.getModifiers();
        check(Modifier.isPublic(modifiers) && Modifier.isFinal(modifiers), "the class is public and final");
        Constructor<?>[] made = LineCaster.class.getDeclaredConstructors();
        check(made.length == 1 && made[0].getParameterCount() == 0 && Modifier.isPublic(made[0].getModifiers()),
            "one public constructor without parameters");
        checkMethods();
        checkFields(LineCaster.class);
        checkConstants();
        for (Class<?> inside : LineCaster.class.getDeclaredClasses()) {
            checkInside(inside);
        }
        System.out.println(wrong == 0 ? "the face is as due" : wrong + " faults in the face");
        if (wrong != 0) System.exit(1);
    }

    private static void checkMethods() {
        Set<String> seen = new TreeSet<>();
        for (Method m : LineCaster.class.getDeclaredMethods()) {
            if (Modifier.isPrivate(m.getModifiers())) {
                check(!isPublicName(m.getName()), "private method " + m.getName() + " has a name of its own");
                continue;
            }
            check(Modifier.isPublic(m.getModifiers()), m.getName() + " is public");
            check(m.getReturnType() == int.class, m.getName() + " answers int");
            seen.add(signature(m));
        }
        check(seen.equals(new TreeSet<>(Set.of(METHODS))), "the methods are the document's: " + seen);
    }

    private static void checkFields(Class<?> c) {
        Set<String> seen = new TreeSet<>();
        for (Field f : c.getDeclaredFields()) {
            boolean isStatic = Modifier.isStatic(f.getModifiers());
            check(!isStatic || Modifier.isFinal(f.getModifiers()), "static field " + f.getName() + " is final");
            if (!Modifier.isPrivate(f.getModifiers())) seen.add(f.getName());
        }
        check(seen.equals(new TreeSet<>(Set.of(CONSTANTS))), "the open fields are the constants: " + seen);
    }

    private static void checkConstants() throws ReflectiveOperationException {
        for (int c = 0; c < CONSTANTS.length; c++) {
            Field f = LineCaster.class.getDeclaredField(CONSTANTS[c]);
            int modifiers = f.getModifiers();
            boolean open = Modifier.isPublic(modifiers) && Modifier.isStatic(modifiers) && f.getType() == int.class;
            check(open && f.getInt(null) == VALUES[c], CONSTANTS[c] + " is a public static int of " + VALUES[c]);
        }
    }

    private static void checkInside(Class<?> inside) {
        int modifiers = inside.getModifiers();
        check(Modifier.isStatic(modifiers), inside.getName() + " is static");
        check(!Modifier.isPublic(modifiers) && !Modifier.isProtected(modifiers), inside.getName() + " is not open");
        for (Method m : inside.getDeclaredMethods()) {
            check(!Modifier.isPrivate(m.getModifiers()) || !isPublicName(m.getName()),
                "private method " + m.getName() + " has a name of its own");
        }
    }

    private static boolean isPublicName(String name) {
        for (String m : METHODS) {
            if (m.substring(0, m.indexOf('(')).equals(name)) return true;
        }
        return false;
    }

    private static String signature(Method m) {
        StringBuilder text = new StringBuilder(m.getName()).append('(');
        for (Class<?> p : m.getParameterTypes()) {
            if (text.charAt(text.length() - 1) != '(') text.append(',');
            text.append(p.getName());
        }
        return text.append(')').toString();
    }

    private static void check(boolean holds, String text) {
        if (!holds) {
            wrong++;
            System.out.println("not so: " + text);
        }
    }
}
