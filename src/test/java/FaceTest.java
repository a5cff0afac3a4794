import java.lang.reflect.Constructor;
import java.lang.reflect.Field;
import java.lang.reflect.Method;
import java.lang.reflect.Modifier;
import java.util.Set;
import java.util.TreeSet;

/** The public face: just the members of the document, and nothing else that can be seen from outside. */
public final class FaceTest {
    private static int wrong = 0;

    public static void main(String[] args) {
        Set<String> due = new TreeSet<>();
        for (String name : new String[] {"BAD_ARG = -1", "FULL = -2", "TOO_FEW = -3", "NONE = -4", "LARGE = -5"}) {
            due.add("public static final int " + name);
        }
        due.add("public TreeCover()");
        for (String name : new String[] {"unrule", "scrap", "fell", "size", "states", "goals"}) {
            due.add("public int TreeCover." + name + "()");
        }
        for (String name : new String[] {"goal", "pattern", "tree", "covering", "cost", "ways", "uses"}) {
            due.add("public int TreeCover." + name + "(int)");
        }
        due.add("public int TreeCover.rule(int,int)");
        due.add("public int TreeCover.used(int,int)");
        due.add("public boolean TreeCover.alike()");
        check("members", seen().toString(), due.toString());
        check("class", Modifier.toString(TreeCover.class.getModifiers()), "public final");
        check("above it", TreeCover.class.getSuperclass().getName(), "java.lang.Object");
        check("interfaces", "" + TreeCover.class.getInterfaces().length, "0");
        check("nested classes", "" + TreeCover.class.getDeclaredClasses().length, "0");
        checkPrivateNames();
        System.out.println(wrong == 0 ? "all answers are as due" : wrong + " answers are not as due");
        if (wrong != 0) {
            System.exit(1);
        }
    }

    private static Set<String> seen() {
        Set<String> seen = new TreeSet<>();
        for (Field f : TreeCover.class.getDeclaredFields()) {
            if (!Modifier.isPrivate(f.getModifiers())) {
                String kind = Modifier.toString(f.getModifiers()) + " " + f.getType();
                seen.add(kind + " " + f.getName() + " = " + value(f));
            }
        }
        for (Constructor<?> c : TreeCover.class.getDeclaredConstructors()) {
            seen.add(c.toString());
        }
        for (Method m : TreeCover.class.getDeclaredMethods()) {
            if (!Modifier.isPrivate(m.getModifiers())) {
                seen.add(m.toString());
            }
        }
        return seen;
    }

    private static String value(Field f) {
        try {
            return "" + f.get(null);
        } catch (IllegalAccessException | NullPointerException e) {
            return "?";
        }
    }

    private static void checkPrivateNames() {
        Set<String> shown = new TreeSet<>();
        Set<String> hidden = new TreeSet<>();
        for (Method m : TreeCover.class.getDeclaredMethods()) {
            (Modifier.isPrivate(m.getModifiers()) ? hidden : shown).add(m.getName());
        }
        hidden.retainAll(shown);
        check("private methods with a public name", hidden.toString(), "[]");
    }

    private static void check(String what, String got, String due) {
        if (!got.equals(due)) {
            wrong++;
            System.out.println(what + ": is " + got + ", due is " + due);
        }
    }
}
