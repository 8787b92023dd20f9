import java.lang.reflect.Constructor;
import java.lang.reflect.Field;
import java.lang.reflect.Method;
import java.lang.reflect.Modifier;
import java.util.Arrays;
import java.util.HashSet;
import java.util.Set;
import java.util.TreeSet;

/** The public face is the document's, and nothing else of the class can be seen from outside. */
public final class FaceTest {
    private static final String[] FACE = {
        "long exact(int,long,long) IllegalArgumentException ArithmeticException",
        "long part(int,int) IllegalArgumentException ArithmeticException",
        "int limb(int,int,int) IllegalArgumentException ArrayIndexOutOfBoundsException",
        "int value(long,long) ArithmeticException", "int over(int,int) ArithmeticException",
        "int rest(int,int) ArithmeticException", "int add(int,int)", "int less(int,int)", "int times(int,int)",
        "int measure(int,int)", "int whole(int,int)", "int order(int,int)", "int of(int,int)", "int row(int)",
        "int put(int,int,int)", "int take(int,int)", "int dot(int,int)", "int scale(int,int)",
        "int eliminate(int,int,int)", "int primitive(int)", "int lead(int)", "int alike(int,int,int)",
        "int decimal(int,int,int)", "int letter(int)", "int count(int)", "int clear()"
    };

    public static void main(String[] args) {
        Check check = new Check();
        Class<?> face = PlanFractions.class;
        check.due("the class", Modifier.toString(face.getModifiers()), "public final");
        check.due("the methods", visibleMethods(face), new TreeSet<>(Arrays.asList(FACE)));
        check.due("the constants", visibleFields(face), new TreeSet<>(Arrays.asList("NONE", "BAD", "FULL", "WIDE", "STATE")));
        check.due("NONE", PlanFractions.NONE, -1);
        check.due("BAD", PlanFractions.BAD, -2);
        check.due("FULL", PlanFractions.FULL, -3);
        check.due("WIDE", PlanFractions.WIDE, -4);
        check.due("STATE", PlanFractions.STATE, -5);
        Constructor<?>[] constructors = face.getDeclaredConstructors();
        check.due("constructors", constructors.length, 1);
        check.due("its parameters", constructors[0].getParameterCount(), 0);
        check.due("it is public", Modifier.isPublic(constructors[0].getModifiers()), true);
        checkInside(check, face);
        check.end();
    }

    private static Set<String> visibleMethods(Class<?> face) {
        Set<String> seen = new TreeSet<>();
        for (Method method : face.getDeclaredMethods()) {
            if (!Modifier.isPrivate(method.getModifiers())) {
                seen.add(describe(method));
            }
        }
        return seen;
    }

    private static String describe(Method method) {
        StringBuilder text = new StringBuilder();
        text.append(method.getReturnType().getName()).append(' ').append(method.getName()).append('(');
        String comma = "";
        for (Class<?> type : method.getParameterTypes()) {
            text.append(comma).append(type.getName());
            comma = ",";
        }
        text.append(')');
        for (Class<?> thrown : method.getExceptionTypes()) {
            text.append(' ').append(thrown.getSimpleName());
        }
        return text.toString();
    }

    private static Set<String> visibleFields(Class<?> face) {
        Set<String> seen = new TreeSet<>();
        for (Field field : face.getDeclaredFields()) {
            if (!Modifier.isPrivate(field.getModifiers())) {
                seen.add(field.getName());
            }
        }
        return seen;
    }

    private static void checkInside(Check check, Class<?> face) {
        Set<String> names = new HashSet<>();
        for (Method method : face.getDeclaredMethods()) {
            check.due(method.getName() + " is the only one of its name", names.add(method.getName()), true);
        }
        check.due("no more than 12 classes", face.getDeclaredClasses().length < 12, true);
        for (Class<?> inside : face.getDeclaredClasses()) {
            check.due(inside.getName() + " is static", Modifier.isStatic(inside.getModifiers()), true);
            for (Field field : inside.getDeclaredFields()) {
                check.due(field + " is no static state", Modifier.isStatic(field.getModifiers()), false);
            }
        }
        for (Field field : face.getDeclaredFields()) {
            int kind = field.getModifiers();
            check.due(field + " is final if static", !Modifier.isStatic(kind) || Modifier.isFinal(kind), true);
        }
    }
}
