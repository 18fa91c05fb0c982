import java.lang.reflect.Constructor;
import java.lang.reflect.Field;
import java.lang.reflect.Method;
import java.lang.reflect.Modifier;
import java.util.ArrayList;
import java.util.Arrays;
import java.util.List;
import java.util.TreeSet;

/** The face is that of the document, and nothing else can be seen from outside. */
public final class FaceTest {
    private static final String[] FACE = {
        "int feed(int,int,int,int,int)", "int pairs(int)", "int sheets(int)", "int matched(int)", "int joins()",
        "int drop()", "int rounds(int,int)", "int even()", "boolean byLetters(boolean)", "boolean placed(boolean)",
        "int near(int,int)", "int likeness(int,int)", "int least(int)", "int side(int,int)", "int word(int,int,int)",
        "int find(int,int)", "int share(int,int,int)", "int best(int,int,int,int)", "int at(int,int,int)",
        "long fit(int,int)", "int part(int,int,int,int)", "int counted(int,int,int)", "int links(int,int,int)",
        "int linked(int,int)", "int pair(int,int,int)", "int cut(int,int,int)", "long partings(int,int)",
        "int phrases(int)", "int phrase(int,int,int)", "int over(int,int,int)", "int tell(int,int,int,boolean)",
        "int agree(int)", "int twins(int)", "int tried(int,int)", "int bestRounds(int)", "int keep()",
        "boolean undo()", "int check(int)", "int count(int)",
    };

    private static int wrong = 0;

    public static void main(String[] args) {
        int open = WordLinks.class.getModifiers();
        must(Modifier.isPublic(open) && Modifier.isFinal(open), "the class is public and final");
        methods();
        fields();
        Constructor<?>[] made = WordLinks.class.getDeclaredConstructors();
        must(made.length == 1 && Modifier.isPublic(made[0].getModifiers()) && made[0].getParameterCount() == 0,
                "one public constructor without parameters");
        nested();
        System.out.println(wrong == 0 ? "the face is as due" : wrong + " things are not as due");
        if (wrong != 0) {
            System.exit(1);
        }
    }

    private static void must(boolean is, String what) {
        if (!is) {
            wrong++;
            System.out.println("not so: " + what);
        }
    }

    private static void methods() {
        List<String> found = new ArrayList<>();
        TreeSet<String> names = new TreeSet<>();
        for (Method m : WordLinks.class.getDeclaredMethods()) {
            if (Modifier.isPublic(m.getModifiers())) {
                found.add(told(m));
                names.add(m.getName());
            }
        }
        must(new TreeSet<>(found).equals(new TreeSet<>(Arrays.asList(FACE))), "the public methods are the document's: " + found);
        for (Method m : WordLinks.class.getDeclaredMethods()) {
            boolean isPublic = Modifier.isPublic(m.getModifiers());
            must(isPublic || Modifier.isPrivate(m.getModifiers()) || m.isSynthetic(), m.getName() + " is private");
            must(isPublic || !names.contains(m.getName()), m.getName() + " bears no public name");
        }
    }

    private static String told(Method m) {
        StringBuilder b = new StringBuilder(m.getReturnType().getName() + " " + m.getName() + "(");
        for (int k = 0; k < m.getParameterCount(); k++) {
            b.append(k == 0 ? "" : ",").append(m.getParameterTypes()[k].getName());
        }
        return b.append(")").toString();
    }

    private static void fields() {
        int own = 0;
        for (Field f : WordLinks.class.getDeclaredFields()) {
            int open = f.getModifiers();
            must(Modifier.isPrivate(open) || f.getName().equals("NONE"), f.getName() + " is private");
            must(!Modifier.isStatic(open) || Modifier.isFinal(open), f.getName() + " is final, as it is static");
            own += Modifier.isStatic(open) ? 0 : 1;
        }
        must(own <= 20, "twenty fields at most");
    }

    private static void nested() {
        Class<?>[] inside = WordLinks.class.getDeclaredClasses();
        must(inside.length + 1 <= 12, "twelve classes at most");
        for (Class<?> c : inside) {
            int open = c.getModifiers();
            must(Modifier.isStatic(open) && !Modifier.isPublic(open) && !Modifier.isProtected(open), c.getName() + " is static and hidden");
            for (Field f : c.getDeclaredFields()) {
                must(!Modifier.isStatic(f.getModifiers()) || Modifier.isFinal(f.getModifiers()), c.getName() + "." + f.getName() + " is final");
            }
            for (Method m : c.getDeclaredMethods()) {
                must(m.getParameterCount() <= 7, m.getName() + " takes seven parameters at most");
            }
        }
    }
}
