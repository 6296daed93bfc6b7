import java.lang.reflect.Constructor;
import java.lang.reflect.Field;
import java.lang.reflect.Member;
import java.lang.reflect.Method;
import java.lang.reflect.Modifier;
import java.util.ArrayList;
import java.util.Arrays;
import java.util.List;
import java.util.TreeSet;
import java.util.stream.Collectors;

/** The public face, member by member, and that nothing else can be seen (rule 1 of LANGUAGE.md). */
public final class FaceTest {
    private static final String NO_SUCH = "NoSuchElementException";
    private static final String WRONG = "IllegalArgumentException";
    private static final String INDEX = "IndexOutOfBoundsException";

    private static final String[] DUE = {
        "int feed(int,int,int,int,int)", "int text(int,int,int)" + WRONG, "int begin(int,int)" + INDEX,
        "int keep(int,int)" + INDEX, "int ask(int,int,int,int)" + WRONG, "int caused(int,int,int)" + NO_SUCH + WRONG,
        "int fields(int,int)" + NO_SUCH + WRONG, "int field(int,int,int)" + NO_SUCH + WRONG,
        "int end(int,int)" + INDEX + WRONG, "int touched(int,int,int)" + NO_SUCH + WRONG, "int calls(int)" + WRONG,
        "int never(int,int)" + WRONG, "boolean noise(int,int,boolean)" + WRONG, "int learn()",
        "int differs(int)" + NO_SUCH, "int shapes()", "int shape(int,int)" + WRONG, "boolean touch(int,int)" + NO_SUCH,
        "int free(int)" + NO_SUCH, "int small(int)" + NO_SUCH, "int smallest(int,int)" + NO_SUCH,
        "int lag(int,int,int)" + WRONG, "int count(int)"
    };

    public static void main(String[] args) {
        Class<?> house = ReplayHouse.class;
        Check.same("the class is public and final",
                Modifier.isPublic(house.getModifiers()) && Modifier.isFinal(house.getModifiers()), true);
        methods(house);
        List<Member> others = new ArrayList<>();
        for (Constructor<?> c : house.getDeclaredConstructors()) {
            Check.same("a public constructor without parameters",
                    Modifier.isPublic(c.getModifiers()) && c.getParameterCount() == 0, true);
        }
        for (Field f : house.getDeclaredFields()) {
            if (!f.getName().equals("NONE")) {
                others.add(f);
            }
            Check.same(f.getName() + " is final if it is static",
                    !Modifier.isStatic(f.getModifiers()) || Modifier.isFinal(f.getModifiers()), true);
        }
        for (Member m : others) {
            Check.same(m.getName() + " is private", Modifier.isPrivate(m.getModifiers()), true);
        }
        for (Class<?> c : house.getDeclaredClasses()) {
            Check.same(c.getName() + " is static and not public",
                    Modifier.isStatic(c.getModifiers()) && !Modifier.isPublic(c.getModifiers()), true);
        }
        Check.close("FaceTest");
    }

    private static void methods(Class<?> house) {
        TreeSet<String> due = new TreeSet<>(Arrays.asList(DUE));
        TreeSet<String> names = new TreeSet<>();
        for (String face : DUE) {
            names.add(face.substring(face.indexOf(' ') + 1, face.indexOf('(')));
        }
        for (Method m : house.getDeclaredMethods()) {
            if (Modifier.isPublic(m.getModifiers())) {
                Check.same(written(m) + " is of the face", due.remove(written(m)), true);
            } else {
                Check.same(m.getName() + " is private", Modifier.isPrivate(m.getModifiers()), true);
                Check.same(m.getName() + " is no name of the face", names.contains(m.getName()), false);
            }
        }
        Check.same("not there: " + due, due.size(), 0);
    }

    private static String written(Method m) {
        String parameters = Arrays.stream(m.getParameterTypes()).map(Class::getName).collect(Collectors.joining(","));
        String thrown = Arrays.stream(m.getExceptionTypes()).map(Class::getSimpleName).collect(Collectors.joining());
        return m.getReturnType().getName() + " " + m.getName() + "(" + parameters + ")" + thrown;
    }
}
