import java.lang.reflect.Constructor;
import java.lang.reflect.Field;
import java.lang.reflect.Method;
import java.lang.reflect.Modifier;
import java.util.Arrays;
import java.util.List;
import java.util.NoSuchElementException;
import java.util.TreeSet;

/** The public face is the document's, and nothing else of the class can be seen from outside. */
public final class FaceTest {
    private static final List<String> FACE = List.of(
        "boolean line(int)", "boolean height(int,int)", "boolean halt(int,boolean)", "int set(int,int)",
        "int person(int,int,int)", "int ride(int)", "int count(int)", "int of(int,int)", "int rode(int)",
        "int again()", "int at(int)", "int clear()", "int day(int)", "int best(int)", "int broken(int,int)",
        "int bent(int)", "int off()");
    private static final Check c = new Check();

    public static void main(String[] args) {
        c.part("the public face");
        c.yes("final", Modifier.isFinal(TwoCars.class.getModifiers()));
        c.due("constructors", TwoCars.class.getDeclaredConstructors().length, 1);
        for (Constructor<?> made : TwoCars.class.getDeclaredConstructors()) {
            c.yes("public constructor", Modifier.isPublic(made.getModifiers()) && made.getParameterCount() == 0);
        }
        methods();
        declaredThrows();
        fields();
        c.end();
    }

    private static void methods() {
        TreeSet<String> seen = new TreeSet<>();
        TreeSet<String> names = new TreeSet<>();
        for (Method method : TwoCars.class.getDeclaredMethods()) {
            if (!Modifier.isPrivate(method.getModifiers())) {
                c.yes(method.getName() + " is public", Modifier.isPublic(method.getModifiers()));
                seen.add(method.getReturnType() + " " + method.getName() + "("
                    + String.join(",", Arrays.stream(method.getParameterTypes()).map(Class::getName).toList()) + ")");
                names.add(method.getName());
            }
        }
        c.yes("methods " + seen, seen.equals(new TreeSet<>(FACE)));
        privateNames(TwoCars.class, names);
        for (Class<?> inside : TwoCars.class.getDeclaredClasses()) {
            privateNames(inside, names);
        }
    }

    private static void privateNames(Class<?> owner, TreeSet<String> names) {
        for (Method method : owner.getDeclaredMethods()) {
            if (owner != TwoCars.class || Modifier.isPrivate(method.getModifiers())) {
                c.no(owner.getName() + " has a " + method.getName(), names.contains(method.getName()));
            }
        }
    }

    private static void declaredThrows() {
        for (Method method : TwoCars.class.getDeclaredMethods()) {
            List<Class<?>> due = method.getName().equals("of") ? List.of(NoSuchElementException.class) : List.of();
            c.yes(method.getName() + " declares " + due, List.of(method.getExceptionTypes()).equals(due));
        }
    }

    private static void fields() {
        for (Field field : TwoCars.class.getDeclaredFields()) {
            if (field.getName().equals("NONE")) {
                int modifiers = Modifier.PUBLIC | Modifier.STATIC | Modifier.FINAL;
                c.due("modifiers of NONE", field.getModifiers(), modifiers);
                c.yes("NONE is an int", field.getType() == int.class);
            } else {
                c.yes(field.getName() + " is private", Modifier.isPrivate(field.getModifiers()));
            }
            if (Modifier.isStatic(field.getModifiers())) {
                c.yes(field.getName() + " is final", Modifier.isFinal(field.getModifiers()));
            }
        }
    }
}
