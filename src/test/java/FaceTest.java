import java.lang.reflect.Constructor;
import java.lang.reflect.Field;
import java.lang.reflect.Method;
import java.lang.reflect.Modifier;
import java.util.Arrays;
import java.util.TreeSet;

/** The face is the document's and nothing more; no private method bears the name of a public one. */
public final class FaceTest {
    private static final String[] METHODS = {
        "int add(int,int,int)", "int remove(int)", "int stick(int)", "int pull(int)", "int push(int,boolean)",
        "int set(int,int)", "int append(int)", "int clear()", "int fault(int)", "int arrange()", "int run()",
        "int at(int,int)", "int whyNot(int)", "int cost(int)", "int leads(int)", "int word(int,int)",
        "int count(int)", "int least(int,int)", "int plan(boolean,int)", "int all(int)", "double mean()",
        "int round(int)", "int loosen()", "int undo()", "int save()", "int restore()",
    };

    private static String named(Method method) {
        StringBuilder types = new StringBuilder();
        for (Class<?> type : method.getParameterTypes()) {
            types.append(types.length() == 0 ? "" : ",").append(type);
        }
        return method.getReturnType() + " " + method.getName() + "(" + types + ")";
    }

    public static void main(String[] args) {
        Class<?> face = ShelfSpines.class;
        TreeSet<String> open = new TreeSet<>();
        TreeSet<String> names = new TreeSet<>();
        for (Method method : face.getDeclaredMethods()) {
            if (!Modifier.isPrivate(method.getModifiers()) && !method.isSynthetic()) {
                open.add(named(method));
                names.add(method.getName());
            }
        }
        Due.same("methods", open.toString(), new TreeSet<>(Arrays.asList(METHODS)).toString());
        TreeSet<String> constants = new TreeSet<>();
        for (Field field : face.getDeclaredFields()) {
            if (!Modifier.isPrivate(field.getModifiers())) {
                constants.add(field.getName());
                Due.same(field.getName(), Modifier.toString(field.getModifiers()), "public static final");
            }
        }
        Due.same("constants", constants.toString(),
                "[CLOSED, FALLING, INVALID_ARGUMENT, LIMIT_REACHED, NOT_FOUND, NOT_POSSIBLE]");
        Due.same("the class", Modifier.toString(face.getModifiers()), "public final");
        Constructor<?>[] constructors = face.getDeclaredConstructors();
        Due.same("constructors", constructors.length, 1);
        Due.same("the constructor", constructors[0].toString(), "public ShelfSpines()");
        for (Class<?> inside : face.getDeclaredClasses()) {
            Due.same(inside.getName(), Modifier.isStatic(inside.getModifiers()) ? 1 : 0, 1);
            for (Method method : inside.getDeclaredMethods()) {
                Due.same(inside.getName() + "." + method.getName() + " is of the face",
                        names.contains(method.getName()) ? 1 : 0, 0);
            }
        }
        int[] numbers = {ShelfSpines.INVALID_ARGUMENT, ShelfSpines.NOT_POSSIBLE, ShelfSpines.LIMIT_REACHED,
            ShelfSpines.NOT_FOUND, ShelfSpines.FALLING, ShelfSpines.CLOSED};
        Due.same("numbers", Arrays.toString(numbers), "[-1, -2, -3, -4, 0, 1]");
        Due.end();
    }
}
