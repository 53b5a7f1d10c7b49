import java.lang.reflect.Constructor;
import java.lang.reflect.Field;
import java.lang.reflect.Member;
import java.lang.reflect.Method;
import java.lang.reflect.Modifier;
import java.util.Arrays;
import java.util.Set;
import java.util.TreeSet;

/** The face is that of the document, and nothing more. */
public final class FaceTest {
    private static final Set<String> METHODS = new TreeSet<>(Arrays.asList(
            "void nil(int) IllegalArgumentException",
            "int load(int,long) IllegalArgumentException",
            "void copy(int,int) IllegalArgumentException",
            "int cons(int,int,int) IllegalArgumentException",
            "int part(int,int,boolean) IllegalArgumentException",
            "int change(int,boolean,int) IllegalArgumentException",
            "int work(int,int,int,int) IllegalArgumentException",
            "int compare(int,int) IllegalArgumentException",
            "boolean same(int,int) IllegalArgumentException",
            "int type(int,int,int,int,int) IllegalStateException",
            "int erase()",
            "int read(int) IllegalArgumentException",
            "int write(int) IllegalArgumentException",
            "char output(int)",
            "int collect()",
            "int value(int,int) IllegalArgumentException",
            "int count(int) IllegalArgumentException"));

    public static void main(String[] args) throws IllegalAccessException {
        checkClass();
        checkConstants();
        checkMethods();
        for (Class<?> inner : CellHeap.class.getDeclaredClasses()) {
            Checks.equal(inner.getName() + " is static", 1, Modifier.isStatic(inner.getModifiers()) ? 1 : 0);
            Checks.equal(inner.getName() + " is seen", 0, isSeen(inner.getModifiers()));
            checkStaticFields(inner);
        }
        checkStaticFields(CellHeap.class);
        Checks.finish();
    }

    private static void checkClass() {
        int mark = CellHeap.class.getModifiers();
        Checks.equal("public and final", 1, Modifier.isPublic(mark) && Modifier.isFinal(mark) ? 1 : 0);
        Constructor<?>[] makers = CellHeap.class.getDeclaredConstructors();
        Checks.equal("constructors", 1, makers.length);
        Checks.equal("constructor's parameters", 0, makers[0].getParameterCount());
        Checks.equal("constructor is public", 1, Modifier.isPublic(makers[0].getModifiers()) ? 1 : 0);
    }

    private static void checkConstants() throws IllegalAccessException {
        Set<String> found = new TreeSet<>();
        for (Field field : CellHeap.class.getDeclaredFields()) {
            if (Modifier.isPrivate(field.getModifiers())) {
                continue;
            }
            int wanted = Modifier.PUBLIC | Modifier.STATIC | Modifier.FINAL;
            Checks.equal(field.getName() + " is a public constant", wanted, field.getModifiers());
            found.add(field.getName() + "=" + field.getInt(null));
        }
        Checks.equal("constants", "[FULL=-6, KIND=-4, LARGE=-3, NONE=-1, OUT=-2, SIGN=-7, ZERO=-5]", found.toString());
    }

    private static void checkMethods() {
        Set<String> found = new TreeSet<>();
        Set<String> hidden = new TreeSet<>();
        for (Method method : CellHeap.class.getDeclaredMethods()) {
            if (Modifier.isPublic(method.getModifiers())) {
                found.add(lineOf(method));
            } else {
                hidden.add(method.getName());
                Checks.equal(method.getName() + " is private", 1, Modifier.isPrivate(method.getModifiers()) ? 1 : 0);
            }
        }
        Checks.equal("methods", METHODS.toString(), found.toString());
        for (String line : METHODS) {
            String name = line.substring(line.indexOf(' ') + 1, line.indexOf('('));
            Checks.equal("a hidden method named " + name, 0, hidden.contains(name) ? 1 : 0);
        }
    }

    private static String lineOf(Method method) {
        StringBuilder line = new StringBuilder(method.getReturnType().getSimpleName());
        line.append(' ').append(method.getName()).append('(');
        for (Class<?> parameter : method.getParameterTypes()) {
            line.append(line.charAt(line.length() - 1) == '(' ? "" : ",").append(parameter.getSimpleName());
        }
        line.append(')');
        for (Class<?> thrown : method.getExceptionTypes()) {
            line.append(' ').append(thrown.getSimpleName());
        }
        return line.toString();
    }

    private static void checkStaticFields(Class<?> owner) {
        for (Field field : owner.getDeclaredFields()) {
            boolean loose = Modifier.isStatic(field.getModifiers()) && !Modifier.isFinal(field.getModifiers());
            Checks.equal(nameOf(field) + " is static and changes", 0, loose ? 1 : 0);
        }
    }

    private static String nameOf(Member member) {
        return member.getDeclaringClass().getName() + "." + member.getName();
    }

    private static int isSeen(int modifiers) {
        return Modifier.isPublic(modifiers) || Modifier.isProtected(modifiers) ? 1 : 0;
    }
}
