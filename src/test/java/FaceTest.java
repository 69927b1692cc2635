import java.lang.reflect.Constructor;
import java.lang.reflect.Field;
import java.lang.reflect.Method;
import java.lang.reflect.Modifier;
import java.util.TreeSet;

/** The public face: the document's constants, constructor and methods, and nothing else that is not private. */
public final class FaceTest {
    private static final String[] METHODS = {
        "int letter(int, int)", "int form(int, int, int)", "int cost(int, int)", "int price(int, int)", "int least()",
        "int way(int)", "int may(int, int)", "int sure(int)", "int date(int, int)", "int name(int, int)",
        "int slips(int, int)", "int worn(int, int, int)", "int habit(int, int)", "int lives()", "int mean()",
        "int gone(int)", "int asking(int, int, int)", "int best(int)", "long round(int, int)",
        "int outrun(int, long)", "int sends(int, int)", "int copies(int, int, int, int)", "int run(int, int, int)",
        "int reach(int, int)", "int stop(int, int)", "int keep(int)", "int burn()", "int hidden()", "int sign(int)",
        "int limb(int, int)", "int count(int)", "long digest()"};

    public static void main(String[] args) {
        Class<?> face = ChainLetters.class;
        Check.that("public final", Modifier.isPublic(face.getModifiers()) && Modifier.isFinal(face.getModifiers()));
        Check.due("NONE", ChainLetters.NONE, -1);
        Check.due("BAD", ChainLetters.BAD, -2);
        Check.due("NO", ChainLetters.NO, -3);
        Check.due("FULL", ChainLetters.FULL, -4);
        TreeSet<String> due = new TreeSet<>();
        for (String m : METHODS) due.add("public " + m);
        TreeSet<String> found = new TreeSet<>();
        TreeSet<String> hiddenNames = new TreeSet<>();
        TreeSet<String> openNames = new TreeSet<>();
        for (Method m : face.getDeclaredMethods()) {
            if (Modifier.isPrivate(m.getModifiers())) {
                hiddenNames.add(m.getName());
                continue;
            }
            openNames.add(m.getName());
            StringBuilder types = new StringBuilder();
            for (Class<?> t : m.getParameterTypes()) types.append(types.length() > 0 ? ", " : "").append(t.getName());
            found.add(Modifier.toString(m.getModifiers()) + " " + m.getReturnType() + " " + m.getName() + "(" + types + ")");
        }
        Check.that("the methods are " + due + ", not " + found, found.equals(due));
        hiddenNames.retainAll(openNames);
        Check.that("no private method bears a public name: " + hiddenNames, hiddenNames.isEmpty());
        TreeSet<String> fields = new TreeSet<>();
        for (Field f : face.getDeclaredFields()) {
            if (!Modifier.isPrivate(f.getModifiers())) fields.add(Modifier.toString(f.getModifiers()) + " " + f.getName());
        }
        Check.that("the fields are " + fields, fields.toString().equals("[public static final BAD, "
            + "public static final FULL, public static final NO, public static final NONE]"));
        Constructor<?>[] made = face.getDeclaredConstructors();
        Check.due("constructors", made.length, 1);
        Check.that("its one is public and takes nothing",
            Modifier.isPublic(made[0].getModifiers()) && made[0].getParameterCount() == 0);
        for (Class<?> inside : face.getDeclaredClasses()) {
            Check.that(inside.getName() + " is static and not public",
                Modifier.isStatic(inside.getModifiers()) && !Modifier.isPublic(inside.getModifiers())
                    && !Modifier.isProtected(inside.getModifiers()));
        }
        Check.end();
    }
}
