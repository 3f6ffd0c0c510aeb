import java.lang.reflect.Constructor;
import java.lang.reflect.Field;
import java.lang.reflect.Method;
import java.lang.reflect.Modifier;
import java.util.Arrays;
import java.util.Set;
import java.util.TreeSet;

/** The face is the document's, and nothing else of the class can be seen from outside. */
public final class FaceTest {
    private static final String[] FACE = {
        "int house(int)", "int guest(int,int)", "int comes(int,int)", "int tells(int)", "int lends(int,int,int)",
        "int table(int,int)", "int weighs(int,int)", "int days(int)", "int weightThen(int,int)", "int then(int,int)",
        "int leaves(int)", "int order(int)", "int feed(int,int)", "int empty(int)", "int tell(int)",
        "int loan(int,int)", "int waits(int)", "int pairs(int)", "int ledger()", "int tears(int)",
        "int whatIs(int,int,int)", "int cameWith(int,int,int)", "int two(int,int,int)",
        "long feasts(int,int,int,int)", "long mean(int)", "int forged(int)", "int judge(int)",
        "int seasons(int,int,int)", "int image()", "int restore()", "int count(int)", "int keep(int,int,int,int)",
        "int row(int,int,int)", "int put(int,int,int)", "long element(int,int)", "int copy(int,int,int,int,int)",
        "int cost(int)", "int toss(int)",
    };

    public static void main(String[] args) throws Exception {
        Check check = new Check();
        Class<?> c = GuestWeighsLess.class;
        check.dueTrue("public and final", Modifier.isPublic(c.getModifiers()) && Modifier.isFinal(c.getModifiers()));
        Constructor<?>[] constructors = c.getDeclaredConstructors();
        check.due("constructors", constructors.length, 1);
        check.dueTrue("the constructor is public, of nothing",
            Modifier.isPublic(constructors[0].getModifiers()) && constructors[0].getParameterCount() == 0);
        lookAtMethods(check, c);
        for (Field f : c.getDeclaredFields()) {
            check.dueTrue("private: " + f.getName(), Modifier.isPrivate(f.getModifiers()));
            check.dueTrue("static fields are final: " + f.getName(),
                !Modifier.isStatic(f.getModifiers()) || Modifier.isFinal(f.getModifiers()));
        }
        for (Class<?> inside : c.getDeclaredClasses()) {
            int m = inside.getModifiers();
            check.dueTrue("static, not public: " + inside.getName(),
                Modifier.isStatic(m) && !Modifier.isPublic(m) && !Modifier.isProtected(m));
        }
        Class<?>[] thrown = c.getMethod("element", int.class, int.class).getExceptionTypes();
        check.dueTrue("element throws as told", Arrays.equals(thrown,
            new Class<?>[] {IllegalArgumentException.class, IllegalStateException.class}));
        check.end();
    }

    private static void lookAtMethods(Check check, Class<?> c) {
        Set<String> face = new TreeSet<>(Arrays.asList(FACE));
        Set<String> names = new TreeSet<>();
        for (String told : FACE) {
            names.add(told.substring(told.indexOf(' ') + 1, told.indexOf('(')));
        }
        Set<String> found = new TreeSet<>();
        for (Method m : c.getDeclaredMethods()) {
            if (Modifier.isPrivate(m.getModifiers())) {
                check.dueTrue("a private method with a public one's name: " + m, !names.contains(m.getName()));
            } else {
                check.dueTrue("public, not static: " + m,
                    Modifier.isPublic(m.getModifiers()) && !Modifier.isStatic(m.getModifiers()));
                found.add(told(m));
            }
        }
        check.dueTrue("the face as told, found " + found, found.equals(face));
    }

    private static String told(Method m) {
        StringBuilder b = new StringBuilder(m.getReturnType().getName() + " " + m.getName() + "(");
        for (int i = 0; i < m.getParameterCount(); i++) {
            b.append(i == 0 ? "" : ",").append(m.getParameterTypes()[i].getName());
        }
        return b.append(")").toString();
    }
}
