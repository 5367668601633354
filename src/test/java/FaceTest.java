import java.lang.reflect.Constructor;
import java.lang.reflect.Field;
import java.lang.reflect.Method;
import java.lang.reflect.Modifier;
import java.util.Set;
import java.util.TreeSet;

/** The class shows the constants, constructor and methods of the document, and nothing else. */
public final class FaceTest {
    private static final Set<String> METHODS = Set.of(
            "int thread(int,int)", "int treadle(int,int)", "int tie(int,int)",
            "int threadAll(int,int)", "int treadleAll(int,int)", "int invert()",
            "int above(int,int)", "int longest(int)", "int over(int)", "int shafts()",
            "int treadles()", "int liftable(int)", "int hangs()", "int layers()",
            "int together(int,int)", "int lifts()", "int divisions()");

    public static void main(String[] args) {
        Check check = new Check();
        Class<?> type = ClothDraft.class;
        check.due("the class's modifiers", Modifier.toString(type.getModifiers()), "public final");
        check.due("BAD_ARG", ClothDraft.BAD_ARG, -1);
        check.due("NONE", ClothDraft.NONE, -4);
        check.due("the constants", visibleFields(type), Set.of(
                "public static final int BAD_ARG", "public static final int NONE"));
        check.due("the constructors", constructors(type), Set.of("public (int,int)"));
        check.due("the methods", visibleMethods(type), new TreeSet<>(METHODS));
        check.due("private methods named like public ones", sharedNames(type), Set.of());
        check.due("nested classes", type.getDeclaredClasses().length, 0);
        check.finish();
    }

    private static Set<String> visibleFields(Class<?> type) {
        Set<String> found = new TreeSet<>();
        for (Field field : type.getDeclaredFields()) {
            if (!Modifier.isPrivate(field.getModifiers())) {
                found.add(Modifier.toString(field.getModifiers()) + " " + field.getType() + " " + field.getName());
            }
        }
        return found;
    }

    private static Set<String> constructors(Class<?> type) {
        Set<String> found = new TreeSet<>();
        for (Constructor<?> made : type.getDeclaredConstructors()) {
            found.add(Modifier.toString(made.getModifiers()) + " " + parameters(made.getParameterTypes()));
        }
        return found;
    }

    private static Set<String> visibleMethods(Class<?> type) {
        Set<String> found = new TreeSet<>();
        for (Method method : type.getDeclaredMethods()) {
            if (!Modifier.isPrivate(method.getModifiers())) {
                String odd = method.getModifiers() == Modifier.PUBLIC ? "" : "not plainly public: ";
                found.add(odd + method.getReturnType() + " " + method.getName() + parameters(method.getParameterTypes()));
            }
        }
        return found;
    }

    private static Set<String> sharedNames(Class<?> type) {
        Set<String> open = new TreeSet<>();
        for (Method method : type.getMethods()) {
            open.add(method.getName());
        }
        Set<String> found = new TreeSet<>();
        for (Method method : type.getDeclaredMethods()) {
            if (Modifier.isPrivate(method.getModifiers()) && open.contains(method.getName())) {
                found.add(method.getName());
            }
        }
        return found;
    }

    private static String parameters(Class<?>[] types) {
        StringBuilder text = new StringBuilder("(");
        for (Class<?> type : types) {
            text.append(text.length() == 1 ? "" : ",").append(type);
        }
        return text.append(")").toString();
    }
}
