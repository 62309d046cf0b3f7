import java.lang.reflect.Constructor;
import java.lang.reflect.Field;
import java.lang.reflect.Method;
import java.lang.reflect.Modifier;
import java.util.Arrays;
import java.util.Set;
import java.util.TreeSet;

/** The public face of the document, no more and no less, and rule 1 of LANGUAGE.md. */
public final class FaceTest {
    private static final String[] FACE = {
        "int sign(int)", "boolean end(int)", "int entry(int, int, int) throws NoSuchElementException",
        "int move(int, int, int) throws NoSuchElementException",
        "int makes(int, int, int, int)", "int beats(int)", "int comes(int, int)", "int gathers(int)", "int cuts(int)",
        "int day()", "int letters(int, int)", "int stable(int)", "int voids(int)", "int below(int, int)",
        "int depth(int, int)", "int meets(int, int, int)", "int places(int, int)", "int total(int, int, int)",
        "int lists(int, int, int)", "int finds(int)", "int path(int, int)", "int apart(int, int)", "int late(int, int)",
        "int then(int)", "int worst(int)", "int frees(int, int)", "int idle(int)", "int nearest(int, int)",
        "int years(int, int)", "boolean keep(int)", "boolean again(int)", "int count(int)",
        "long row(int) throws NoSuchElementException"};

    private FaceTest() {
    }

    public static void main(String[] args) {
        Class<?> face = FarFolders.class;
        Check.due("public and final", Modifier.isPublic(face.getModifiers()) && Modifier.isFinal(face.getModifiers()), true);
        constants(face);
        Set<String> seen = new TreeSet<>();
        Set<String> names = new TreeSet<>();
        for (Method method : face.getDeclaredMethods()) {
            if (!Modifier.isPrivate(method.getModifiers())) {
                seen.add(tell(method));
                names.add(method.getName());
            }
        }
        Set<String> due = new TreeSet<>(Arrays.asList(FACE));
        Check.due("methods " + seen + " are those of the document", seen.equals(due), true);
        Check.due("33 of them", seen.size(), 33);
        Constructor<?>[] made = face.getDeclaredConstructors();
        Check.due("one constructor", made.length, 1);
        Check.due("a public one", Modifier.isPublic(made[0].getModifiers()) && made[0].getParameterCount() == 0, true);
        noOtherBearsItsName(face, names);
        for (Class<?> inside : face.getDeclaredClasses()) {
            Check.due(inside + " is static", Modifier.isStatic(inside.getModifiers()), true);
            Check.due(inside + " is not public", Modifier.isPublic(inside.getModifiers()), false);
            Check.due(inside + " has few fields", inside.getDeclaredFields().length <= 20, true);
            noOtherBearsItsName(inside, names);
        }
        Check.due("at most twelve classes", face.getDeclaredClasses().length + 1 <= 12, true);
        Check.close("FaceTest");
    }

    private static void constants(Class<?> face) {
        for (Field field : face.getDeclaredFields()) {
            boolean isNone = field.getName().equals("NONE");
            Check.due("field " + field.getName() + " is private", Modifier.isPrivate(field.getModifiers()), !isNone);
            if (isNone) {
                int due = Modifier.PUBLIC | Modifier.STATIC | Modifier.FINAL;
                Check.due("public static final", field.getModifiers(), due);
                Check.due("an int", field.getType() == int.class, true);
            }
        }
        Check.due("NONE", FarFolders.NONE, -1);
    }

    private static String tell(Method method) {
        String parameters = Arrays.toString(method.getParameterTypes());
        StringBuilder told = new StringBuilder();
        told.append(method.getReturnType()).append(' ').append(method.getName()).append('(')
            .append(parameters, 1, parameters.length() - 1).append(')');
        for (Class<?> thrown : method.getExceptionTypes()) {
            told.append(" throws ").append(thrown.getSimpleName());
        }
        return told.toString();
    }

    private static void noOtherBearsItsName(Class<?> owner, Set<String> names) {
        for (Method method : owner.getDeclaredMethods()) {
            if (owner != FarFolders.class || Modifier.isPrivate(method.getModifiers())) {
                Check.due(owner + " has no " + method.getName() + " of its own", names.contains(method.getName()), false);
            }
        }
    }
}
