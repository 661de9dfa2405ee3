import java.lang.reflect.Constructor;
import java.lang.reflect.Field;
import java.lang.reflect.Method;
import java.lang.reflect.Modifier;
import java.util.Set;
import java.util.TreeSet;

/** The public face is the document's, and nothing else of the class can be seen. */
final class FaceTests {
    private static final Set<String> FACE = Set.of(
            "int typeVariable(int)", "int arrow(int,int)", "int variable(int,int)", "int equality(int)",
            "int apply(int,int)", "int lambda(int,int)", "int rule(int,int,int,int)", "int define(int)",
            "int defineType(int)", "int line(int,int,int,int)", "int clear()", "int replay()",
            "int typeOf(int)", "int kind(int)", "int part(int,int)", "boolean free(int,int)",
            "int conclusion(int)", "int hypotheses(int)", "boolean assumes(int,int)", "int count(int)");

    private FaceTests() {
    }

    static void all() {
        Check.yes("final class", Modifier.isFinal(SequentKernel.class.getModifiers()));
        Check.yes("public class", Modifier.isPublic(SequentKernel.class.getModifiers()));
        methods();
        constructorsAndFields();
        classesInside();
    }

    private static void methods() {
        Set<String> seen = new TreeSet<>();
        Set<String> publicNames = new TreeSet<>();
        Set<String> privateNames = new TreeSet<>();
        for (Method m : SequentKernel.class.getDeclaredMethods()) {
            if (Modifier.isPrivate(m.getModifiers())) {
                privateNames.add(m.getName());
            } else {
                seen.add(written(m));
                publicNames.add(m.getName());
                Check.yes(m + " is public", Modifier.isPublic(m.getModifiers()));
            }
        }
        Check.yes("the face is " + seen, seen.equals(new TreeSet<>(FACE)));
        privateNames.retainAll(publicNames);
        Check.yes("private names that are public too: " + privateNames, privateNames.isEmpty());
    }

    private static String written(Method m) {
        StringBuilder text = new StringBuilder(m.getReturnType() + " " + m.getName() + "(");
        for (int i = 0; i < m.getParameterCount(); i++) {
            text.append(i == 0 ? "" : ",").append(m.getParameterTypes()[i]);
        }
        return text.append(")").toString();
    }

    private static void constructorsAndFields() {
        Constructor<?>[] constructors = SequentKernel.class.getDeclaredConstructors();
        Check.is("constructors", constructors.length, 1);
        Check.yes("a public one without arguments", Modifier.isPublic(constructors[0].getModifiers())
                && constructors[0].getParameterCount() == 0);
        for (Field f : SequentKernel.class.getDeclaredFields()) {
            Check.yes(f + " is private", Modifier.isPrivate(f.getModifiers()));
        }
    }

    private static void classesInside() {
        for (Class<?> inside : SequentKernel.class.getDeclaredClasses()) {
            Check.yes(inside + " is static", Modifier.isStatic(inside.getModifiers()));
            Check.no(inside + " is public", Modifier.isPublic(inside.getModifiers()));
        }
    }
}
