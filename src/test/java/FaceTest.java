import java.lang.reflect.Constructor;
import java.lang.reflect.Field;
import java.lang.reflect.Method;
import java.lang.reflect.Modifier;
import java.util.Set;
import java.util.TreeSet;

/** The public face is the document's, and nothing else of the class can be seen (LANGUAGE.md, rules 1 and 5). */
public final class FaceTest {
    private static final Set<String> FACE = new TreeSet<>(Set.of(
            "void control(int,int,int)", "int operate(int,int)", "int load(int,int)", "int store(int,int)",
            "void write(int,long)", "long memory(int)", "void pass(int)", "int await()", "long time()",
            "int flags()", "void clear()", "int condition()", "int depth()", "int kind(int)",
            "int exponent(int)", "long significand(int)"));

    public static void main(String[] args) {
        Checks checks = new Checks("FaceTest");
        checks.isTrue("the class is public and final",
                Modifier.isPublic(StackReal.class.getModifiers()) && Modifier.isFinal(StackReal.class.getModifiers()));
        Constructor<?>[] constructors = StackReal.class.getDeclaredConstructors();
        checks.due("constructors", constructors.length, 1);
        checks.isTrue("the constructor is public and takes nothing",
                Modifier.isPublic(constructors[0].getModifiers()) && constructors[0].getParameterCount() == 0);
        checkMethods(checks);
        checkFields(checks, StackReal.class);
        for (Class<?> inside : StackReal.class.getDeclaredClasses()) {
            int m = inside.getModifiers();
            checks.isTrue(inside + " is static and not public", Modifier.isStatic(m) && !Modifier.isPublic(m) && !Modifier.isProtected(m));
            for (Field field : inside.getDeclaredFields()) {
                checks.isTrue(field + " is no static state", !Modifier.isStatic(field.getModifiers()) || Modifier.isFinal(field.getModifiers()));
            }
        }
        checks.end();
    }

    private static void checkMethods(Checks checks) {
        Set<String> seen = new TreeSet<>();
        Set<String> publicNames = new TreeSet<>();
        Set<String> privateNames = new TreeSet<>();
        for (Method method : StackReal.class.getDeclaredMethods()) {
            if (Modifier.isPrivate(method.getModifiers())) {
                privateNames.add(method.getName());
            } else {
                seen.add(signature(method));
                publicNames.add(method.getName());
                checks.isTrue(method + " is public and of the object", Modifier.isPublic(method.getModifiers()) && !Modifier.isStatic(method.getModifiers()));
            }
        }
        checks.due("the face", seen, FACE);
        privateNames.retainAll(publicNames);
        checks.due("private methods with the name of a public one", privateNames, new TreeSet<String>());
    }

    private static String signature(Method method) {
        StringBuilder text = new StringBuilder(method.getReturnType() + " " + method.getName() + "(");
        for (Class<?> type : method.getParameterTypes()) {
            text.append(text.charAt(text.length() - 1) == '(' ? "" : ",").append(type);
        }
        return text.append(')').toString();
    }

    private static void checkFields(Checks checks, Class<?> type) {
        for (Field field : type.getDeclaredFields()) {
            int m = field.getModifiers();
            checks.isTrue(field + " is private", Modifier.isPrivate(m));
            checks.isTrue(field + " is final if static", !Modifier.isStatic(m) || Modifier.isFinal(m));
        }
    }
}
