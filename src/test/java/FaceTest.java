import java.lang.reflect.Constructor;
import java.lang.reflect.Field;
import java.lang.reflect.Method;
import java.lang.reflect.Modifier;
import java.util.Arrays;
import java.util.Set;
import java.util.TreeSet;

/** The class has the document's face and nothing else that can be seen. */
public final class FaceTest {
    private static final String[] METHODS = {
        "int write(int,long)", "int wipe()", "int fault()", "int lay()", "long realm(int,int)", "long market(int)",
        "int moves(int)", "int ends(int,int)", "int held()", "int year()", "int rest()", "int gone(int,int,int)",
        "int stopped(int,int)", "int free(int)", "int ahead(int)", "int debt(int,int,int)", "int pact(int,int,int)",
        "int fewest(int)", "int bought(int,int)", "int corner(int)", "int move(int,int)", "int melted()", "int keep()",
        "int back()", "int count(int)"
    };

    private final Due due = new Due("face");

    public static void main(String[] args) {
        FaceTest test = new FaceTest();
        test.constants();
        test.members();
        test.hiddenNames();
        test.due.finish();
    }

    private void constants() {
        due.is("BAD", TwoMetals.BAD, -1);
        due.is("NO", TwoMetals.NO, -2);
        due.is("FULL", TwoMetals.FULL, -3);
        due.is("NONE", TwoMetals.NONE, -4);
        due.is("SPENT", TwoMetals.SPENT, -5);
        Set<String> seen = new TreeSet<>();
        for (Field field : TwoMetals.class.getDeclaredFields()) {
            if (!Modifier.isPrivate(field.getModifiers())) {
                seen.add(field.getName());
            }
        }
        due.holds("fields " + seen, seen.equals(Set.of("BAD", "NO", "FULL", "NONE", "SPENT")));
    }

    private void members() {
        int modifiers = TwoMetals.class.getModifiers();
        due.holds("public final", Modifier.isPublic(modifiers) && Modifier.isFinal(modifiers));
        Constructor<?>[] made = TwoMetals.class.getDeclaredConstructors();
        due.holds("one public constructor without arguments",
            made.length == 1 && Modifier.isPublic(made[0].getModifiers()) && made[0].getParameterCount() == 0);
        Set<String> seen = new TreeSet<>();
        for (Method method : TwoMetals.class.getDeclaredMethods()) {
            if (!Modifier.isPrivate(method.getModifiers())) {
                seen.add(told(method));
            }
        }
        Set<String> wanted = new TreeSet<>(Arrays.asList(METHODS));
        due.holds("methods " + seen, seen.equals(wanted));
    }

    private void hiddenNames() {
        Set<String> open = new TreeSet<>();
        for (String method : METHODS) {
            open.add(method.substring(method.indexOf(' ') + 1, method.indexOf('(')));
        }
        hiddenNamesOf(TwoMetals.class, open);
        for (Class<?> inside : TwoMetals.class.getDeclaredClasses()) {
            due.holds(inside + " is static", Modifier.isStatic(inside.getModifiers()));
            hiddenNamesOf(inside, open);
        }
    }

    private void hiddenNamesOf(Class<?> type, Set<String> open) {
        for (Method method : type.getDeclaredMethods()) {
            boolean isOfTheFace = type == TwoMetals.class && Modifier.isPublic(method.getModifiers());
            due.holds(method + " bears no name of the face", isOfTheFace || !open.contains(method.getName()));
        }
    }

    private static String told(Method method) {
        StringBuilder told = new StringBuilder();
        told.append(Modifier.isStatic(method.getModifiers()) ? "static " : "");
        told.append(method.getReturnType().getSimpleName()).append(' ').append(method.getName()).append('(');
        String comma = "";
        for (Class<?> type : method.getParameterTypes()) {
            told.append(comma).append(type.getSimpleName());
            comma = ",";
        }
        return told.append(')').toString();
    }
}
