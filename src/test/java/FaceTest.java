import java.lang.reflect.Constructor;
import java.lang.reflect.Field;
import java.lang.reflect.Method;
import java.lang.reflect.Modifier;
import java.util.Arrays;
import java.util.Set;
import java.util.TreeSet;
import java.util.stream.Collectors;

/** The class shows the document's face, and nothing beside it. */
public final class FaceTest {
    private static final String I = "IndexOutOfBoundsException";
    private static final String A = "IllegalArgumentException";
    private static final String S = "IllegalStateException";
    private static final String[] FACE = {
        "int begin(int,int,int) " + I,
        "boolean whole(int) " + I + " " + S,
        "int below(int,int) " + I + " " + S,
        "int between(int,int,int) " + I + " " + S,
        "int only(int,int) " + I + " " + A + " " + S,
        "boolean longer(int) " + I + " " + S,
        "boolean coin(int) " + I + " " + S,
        "int draw(int,int,int) " + I + " " + A + " " + S,
        "int split(int,int) " + I + " " + A + " " + S,
        "int again(int,int) " + I,
        "int back(int,int) " + I + " " + A,
        "int ofSower(int,int) " + I + " " + A,
        "String row(int) " + I,
        "String birth(int) " + I,
        "String act(int,int) " + I,
        "int count(int,int) " + I + " " + A,
        "int within(int,int,int,int) " + I + " " + A,
        "int tried(int) " + I,
        "boolean areLike(int,int) " + I,
        "boolean areTwins(int,int) " + I,
        "int common(int,int) " + I,
        "int together(int,int,int) " + I + " " + A,
        "int both(int,int) " + I + " " + S,
        "int pairs(int,int,int) " + A,
        "int children(int,int,int,int) " + A,
        "int knock() ",
        "int house(int) " + A,
        "boolean isSound() ",
        "long digest() "};

    private static String names(Class<?>[] types, String between) {
        return Arrays.stream(types).map(Class::getSimpleName).collect(Collectors.joining(between));
    }

    private static String signature(Method m) {
        return m.getReturnType().getSimpleName() + " " + m.getName() + "("
                + names(m.getParameterTypes(), ",") + ") " + names(m.getExceptionTypes(), " ");
    }

    public static void main(String[] args) {
        Set<String> wrong = new TreeSet<>();
        Set<String> missing = new TreeSet<>(Arrays.asList(FACE));
        Set<String> names = new TreeSet<>();
        for (String signature : FACE) {
            names.add(signature.replaceAll("^\\w+ (\\w+).*", "$1"));
        }
        for (Method m : Splitseed.class.getDeclaredMethods()) {
            boolean shown = !Modifier.isPrivate(m.getModifiers());
            if (shown && !missing.remove(signature(m))) {
                wrong.add("not of the face: " + signature(m));
            }
            if (!shown && names.contains(m.getName())) {
                wrong.add("private, with a name of the face: " + m.getName());
            }
        }
        for (Class<?> inside : Splitseed.class.getDeclaredClasses()) {
            for (Method m : inside.getDeclaredMethods()) {
                if (names.contains(m.getName())) {
                    wrong.add("inside, with a name of the face: " + m.getName());
                }
            }
        }
        for (Field f : Splitseed.class.getDeclaredFields()) {
            if (!Modifier.isPrivate(f.getModifiers())) {
                wrong.add("not of the face: " + f.getName());
            }
        }
        Constructor<?>[] makers = Splitseed.class.getDeclaredConstructors();
        if (makers.length != 1 || makers[0].getModifiers() != Modifier.PUBLIC
                || makers[0].getParameterCount() != 0) {
            wrong.add("the constructor");
        }
        if (Splitseed.class.getModifiers() != (Modifier.PUBLIC | Modifier.FINAL)) {
            wrong.add("the class is not public and final alone");
        }
        missing.forEach(signature -> wrong.add("missing: " + signature));
        wrong.forEach(System.out::println);
        System.out.println(wrong.isEmpty() ? "the face is as due" : "the face is not as due");
        if (!wrong.isEmpty()) {
            System.exit(1);
        }
    }
}
