import java.lang.reflect.Constructor;
import java.lang.reflect.Field;
import java.lang.reflect.Method;
import java.lang.reflect.Modifier;
import java.util.Set;
import java.util.TreeSet;

/** The public face is the document's, and nothing else can be seen from outside. */
public final class FaceTest {
    private static final String[] FACE = {
        "int feed(int,int,int,int,int)", "int end(int)", "int street()", "int rule()", "int house(int,int)",
        "int stay(int,int)", "int person(int,int)", "boolean come(int,int)", "boolean go(int,boolean)",
        "int tick(int,int)", "int ahead(int,int,int)", "int bestRule()", "int cross(int,int,int)",
        "int fits(int,int,int)", "int most(int,int)", "int houses(int,int,int)", "int wishes(int,int,int,int,int)",
        "int plan(int)", "int waits(int,int)", "int rings(int)", "int worth(int,int)", "int asks(int)",
        "int went(int)", "int before(int,int)", "int orders(int)", "int guest(int,int)", "int kept(int,int,int)",
        "int knocks(int,int,int,int,int,int)", "int seed(int)", "int evenings(int,int,int)", "int count(int)",
        "int image(int)", "int back(int)"};

    public static void main(String[] args) {
        Class<?> face = AfterTheLast.class;
        Check.is("public", Modifier.isPublic(face.getModifiers()), true);
        Check.is("final", Modifier.isFinal(face.getModifiers()), true);
        methods(face);
        fields(face);
        constructors(face);
        classesInside(face);
        Check.done();
    }

    private static String told(Method m) {
        StringBuilder b = new StringBuilder(m.getReturnType().getSimpleName()).append(' ').append(m.getName()).append('(');
        for (Class<?> p : m.getParameterTypes()) {
            b.append(b.charAt(b.length() - 1) == '(' ? "" : ",").append(p.getSimpleName());
        }
        return b.append(')').toString();
    }

    private static void methods(Class<?> face) {
        Set<String> due = new TreeSet<>(Set.of(FACE));
        Set<String> names = new TreeSet<>();
        for (Method m : face.getDeclaredMethods()) {
            if (Modifier.isPublic(m.getModifiers())) {
                names.add(m.getName());
                Check.is(told(m) + " is of the face", due.remove(told(m)), true);
                Check.is(told(m) + " is static", Modifier.isStatic(m.getModifiers()), false);
            } else {
                Check.is(told(m) + " is private", Modifier.isPrivate(m.getModifiers()), true);
            }
        }
        Check.is("missing: " + due, due.size(), 0);
        for (Class<?> c : face.getDeclaredClasses()) {
            for (Method m : c.getDeclaredMethods()) {
                Check.is(c.getSimpleName() + "." + m.getName() + " bears a public name", names.contains(m.getName()), false);
            }
        }
        for (Method m : face.getDeclaredMethods()) {
            if (!Modifier.isPublic(m.getModifiers())) {
                Check.is(m.getName() + " bears a public name", names.contains(m.getName()), false);
            }
        }
    }

    private static void fields(Class<?> face) {
        for (Field f : face.getDeclaredFields()) {
            boolean none = f.getName().equals("NONE");
            int is = f.getModifiers();
            Check.is(f.getName() + " is " + (none ? "public" : "private"), none ? Modifier.isPublic(is) : Modifier.isPrivate(is), true);
            Check.is(f.getName() + " is static and final or neither", !Modifier.isStatic(is) || Modifier.isFinal(is), true);
        }
        Check.is("NONE", AfterTheLast.NONE, -1);
    }

    private static void constructors(Class<?> face) {
        Constructor<?>[] all = face.getDeclaredConstructors();
        Check.is("one constructor", all.length, 1);
        Check.is("without arguments", all[0].getParameterCount(), 0);
        Check.is("public", Modifier.isPublic(all[0].getModifiers()), true);
    }

    private static void classesInside(Class<?> face) {
        Check.is("at most twelve classes", face.getDeclaredClasses().length <= 11, true);
        for (Class<?> c : face.getDeclaredClasses()) {
            int is = c.getModifiers();
            Check.is(c.getSimpleName() + " is static", Modifier.isStatic(is), true);
            Check.is(c.getSimpleName() + " is not public", Modifier.isPublic(is) || Modifier.isProtected(is), false);
            int own = 0;
            for (Field f : c.getDeclaredFields()) {
                boolean isStatic = Modifier.isStatic(f.getModifiers());
                own += isStatic ? 0 : 1;
                Check.is(c.getSimpleName() + "." + f.getName() + " is final if static", !isStatic || Modifier.isFinal(f.getModifiers()), true);
            }
            Check.is(c.getSimpleName() + " has some twenty fields", own <= 20, true);
        }
    }
}
