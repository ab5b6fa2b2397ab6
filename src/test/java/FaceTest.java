import java.lang.reflect.Constructor;
import java.lang.reflect.Field;
import java.lang.reflect.Method;
import java.lang.reflect.Modifier;
import java.util.Set;
import java.util.TreeSet;

/** The public face of the document, and rule 1 of LANGUAGE.md: nothing but the face can be seen. */
public final class FaceTest {
    private static final String[] FACE = {
        "int field(int)", "int set(int,int,int)", "int get(int,int)", "int join(int,int,int,int)",
        "int power(int,int,int,int)", "int inverse(int,int,int)", "int value(int,int)", "int zeros(int)",
        "int factor(int)", "int piece(int,int)", "boolean irreducible(int)", "int order(int)",
        "int linear(int,int)", "int count(int)"};

    public static void main(String[] args) {
        int modifiers = FieldFactors.class.getModifiers();
        Checks.due("public", Modifier.isPublic(modifiers), true);
        Checks.due("final", Modifier.isFinal(modifiers), true);
        Checks.due("the package", FieldFactors.class.getPackageName(), "");
        constructors();
        methods();
        fields();
        classesInside();
        Checks.end();
    }

    private static void constructors() {
        Constructor<?>[] all = FieldFactors.class.getDeclaredConstructors();
        Checks.due("constructors", all.length, 1);
        Checks.due("the constructor's parameters", all[0].getParameterCount(), 0);
        Checks.due("the constructor is public", Modifier.isPublic(all[0].getModifiers()), true);
    }

    private static void methods() {
        Set<String> seen = new TreeSet<>();
        Set<String> names = new TreeSet<>();
        for (Method method : FieldFactors.class.getDeclaredMethods()) {
            if (!Modifier.isPrivate(method.getModifiers())) {
                seen.add(method.getReturnType() + " " + method.getName() + parameters(method));
                names.add(method.getName());
            }
        }
        Checks.due("the methods", seen.toString(), new TreeSet<>(Set.of(FACE)).toString());
        for (Method method : FieldFactors.class.getDeclaredMethods()) {
            if (Modifier.isPrivate(method.getModifiers())) {
                Checks.due(method.getName() + " is a public name", names.contains(method.getName()), false);
            }
        }
    }

    private static String parameters(Method method) {
        StringBuilder text = new StringBuilder("(");
        for (Class<?> type : method.getParameterTypes()) {
            text.append(text.length() > 1 ? "," : "").append(type);
        }
        return text.append(')').toString();
    }

    private static void fields() {
        for (Field field : FieldFactors.class.getDeclaredFields()) {
            int modifiers = field.getModifiers();
            Checks.due(field.getName() + " is private", Modifier.isPrivate(modifiers), true);
            Checks.due(field.getName() + " is static only if final",
                    !Modifier.isStatic(modifiers) || Modifier.isFinal(modifiers), true);
        }
    }

    private static void classesInside() {
        for (Class<?> inside : FieldFactors.class.getDeclaredClasses()) {
            Checks.due(inside.getName() + " is static", Modifier.isStatic(inside.getModifiers()), true);
            Checks.due(inside.getName() + " is not public",
                    Modifier.isPublic(inside.getModifiers()) || Modifier.isProtected(inside.getModifiers()), false);
        }
    }
}
