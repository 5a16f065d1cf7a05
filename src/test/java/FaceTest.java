import java.lang.reflect.Constructor;
import java.lang.reflect.Field;
import java.lang.reflect.Method;
import java.lang.reflect.Modifier;
import java.util.Arrays;
import java.util.NoSuchElementException;
import java.util.TreeSet;

/** The public face, and rules 1 and 5 of the language as far as the compiled class shows them. */
public final class FaceTest {
    private static final String[] FACE = {
        "int sign(int)", "boolean end(int)", "int grammar()", "int line()", "int brackets()", "int symbol(int, int)",
        "int at(int)", "int sheet(int, int, int, int)", "int fits(int, int)", "int onwards(int)", "int back(int)",
        "int sentence()", "int next(int, int)", "int ahead(int, int)", "int yields(int, int, int, int)", "int report()",
        "int backwards()", "int led()", "int least()", "int mate(int)", "int needed()", "int without(int)",
        "int blames()", "int longest()", "int weakest()", "int wide(int)", "int capital(int, int)",
        "int sentences(int)", "int apart(int, int)", "int becomes(int, int)", "int comes(int, int)", "int goes(int)",
        "int day()", "int undo()", "int years(int, int)", "boolean keep(int)", "boolean again(int)", "int count(int)",
        "long row(int)"};

    public static void main(String[] args) {
        Class<?> face = PiecesThatFit.class;
        Check.isTrue("public and final", Modifier.isPublic(face.getModifiers()) && Modifier.isFinal(face.getModifiers()));
        TreeSet<String> names = askMethods(face);
        askConstructors(face);
        askFields(face);
        Check.equal("classes", face.getDeclaredClasses().length > 12 ? 0 : 1, 1);
        for (Class<?> inside : face.getDeclaredClasses()) {
            askInside(inside, names);
        }
        Check.finish();
    }

    private static TreeSet<String> askMethods(Class<?> face) {
        TreeSet<String> due = new TreeSet<>(Arrays.asList(FACE));
        TreeSet<String> names = new TreeSet<>();
        TreeSet<String> privates = new TreeSet<>();
        TreeSet<String> throwing = new TreeSet<>();
        for (Method method : face.getDeclaredMethods()) {
            if (Modifier.isPrivate(method.getModifiers())) {
                privates.add(method.getName());
                continue;
            }
            Check.isTrue("public: " + method, Modifier.isPublic(method.getModifiers()));
            Check.isFalse("static: " + method, Modifier.isStatic(method.getModifiers()));
            names.add(method.getName());
            String parameters = String.join(", ", Arrays.stream(method.getParameterTypes()).map(Class::getName).toList());
            String told = method.getReturnType() + " " + method.getName() + "(" + parameters + ")";
            Check.isTrue("in the face: " + told, due.remove(told));
            for (Class<?> exception : method.getExceptionTypes()) {
                Check.isTrue("what it throws", exception == NoSuchElementException.class);
                throwing.add(method.getName());
            }
        }
        Check.equal("missing", due.toString(), "[]");
        Check.equal("throwing", throwing.toString(), "[at, row, symbol]");
        privates.retainAll(names);
        Check.equal("private ones that bear a public one's name", privates.toString(), "[]");
        return names;
    }

    private static void askConstructors(Class<?> face) {
        Constructor<?>[] constructors = face.getDeclaredConstructors();
        Check.equal("constructors", constructors.length, 1);
        Check.isTrue("public", Modifier.isPublic(constructors[0].getModifiers()));
        Check.equal("its parameters", constructors[0].getParameterCount(), 0);
    }

    private static void askFields(Class<?> face) {
        int open = 0;
        for (Field field : face.getDeclaredFields()) {
            open += Modifier.isPrivate(field.getModifiers()) ? 0 : 1;
            askField(field);
        }
        Check.equal("fields that are not private: NONE", open, 1);
    }

    private static void askField(Field field) {
        boolean isStatic = Modifier.isStatic(field.getModifiers());
        Check.isTrue("static ones are final: " + field, !isStatic || Modifier.isFinal(field.getModifiers()));
        Check.isTrue("static ones are ints: " + field, !isStatic || field.getType() == int.class);
    }

    private static void askInside(Class<?> inside, TreeSet<String> names) {
        int modifiers = inside.getModifiers();
        Check.isTrue("static: " + inside, Modifier.isStatic(modifiers));
        Check.isFalse("open: " + inside, Modifier.isPublic(modifiers) || Modifier.isProtected(modifiers));
        int fields = 0;
        for (Field field : inside.getDeclaredFields()) {
            fields += Modifier.isStatic(field.getModifiers()) ? 0 : 1;
            askField(field);
        }
        Check.isTrue("twenty fields at most: " + inside, fields <= 20);
        for (Method method : inside.getDeclaredMethods()) {
            Check.isFalse("bears a public one's name: " + method, names.contains(method.getName()));
            Check.isTrue("seven parameters at most: " + method, method.getParameterCount() <= 7);
        }
    }
}
