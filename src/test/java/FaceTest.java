import java.lang.reflect.Constructor;
import java.lang.reflect.Field;
import java.lang.reflect.Method;
import java.lang.reflect.Modifier;
import java.util.ArrayList;
import java.util.Collections;
import java.util.HashSet;
import java.util.List;
import java.util.Set;

/** The class shows the document's face, and nothing else. */
public final class FaceTest {
    private static final String[] FACE = {
        "int choir()", "int count(int)", "int couples()", "int crowd(int)", "int door(int, boolean, int)",
        "int eaten(int)", "int fault()", "int feed(int, int, int, int, int)", "int fish(int, int)",
        "int from(int)", "int full()", "int game(int, int, int)", "int hear(int, int, boolean)",
        "int house(int)", "int leastFish(int)", "int listen(int)", "int lonely(int)", "int meeting(int)",
        "int meets(int, int)", "int monk(int, int)", "int move(int, int)", "int needless(int)",
        "int nights(int)", "int often(int, int)", "int pray(int, int)", "int psalm(int)",
        "int ring(int, boolean, int)", "int room(int, int)", "int silent()", "int spread(int)",
        "int then(int, int, int)", "int toPray(int, int)", "int undo()", "int up(int, int)",
        "int years(int, int, int)", "boolean restore()", "boolean tie(int, boolean)", "void forget()",
        "void image()"};

    public static void main(String[] args) {
        Check check = new Check();
        Class<?> face = DreamMatins.class;
        List<String> seen = new ArrayList<>();
        Set<String> publicNames = new HashSet<>();
        for (Method method : face.getDeclaredMethods()) {
            if (!Modifier.isPrivate(method.getModifiers()) && !method.isSynthetic()) {
                seen.add(shown(method));
                publicNames.add(method.getName());
                check.holds(method + " is public", Modifier.isPublic(method.getModifiers()));
            }
        }
        List<String> wanted = new ArrayList<>(List.of(FACE));
        Collections.sort(wanted);
        Collections.sort(seen);
        check.holds("the methods are " + wanted + ", seen: " + seen, wanted.equals(seen));
        lookAtPrivateNames(check, face, publicNames);
        for (Field field : face.getDeclaredFields()) {
            boolean isNone = field.getName().equals("NONE") && Modifier.isPublic(field.getModifiers());
            check.holds(field + " is hidden", isNone || Modifier.isPrivate(field.getModifiers()));
            check.holds(field + " is no static state",
                !Modifier.isStatic(field.getModifiers()) || Modifier.isFinal(field.getModifiers()));
        }
        Constructor<?>[] constructors = face.getDeclaredConstructors();
        check.holds("one constructor, public, without arguments", constructors.length == 1
            && Modifier.isPublic(constructors[0].getModifiers()) && constructors[0].getParameterCount() == 0);
        check.holds("public and final",
            Modifier.isFinal(face.getModifiers()) && Modifier.isPublic(face.getModifiers()));
        check.due("NONE", -1, () -> DreamMatins.NONE);
        check.end();
    }

    private static void lookAtPrivateNames(Check check, Class<?> face, Set<String> publicNames) {
        List<Class<?>> all = new ArrayList<>(List.of(face.getDeclaredClasses()));
        for (Class<?> inside : all) {
            check.holds(inside + " is static and not public", Modifier.isStatic(inside.getModifiers())
                && !Modifier.isPublic(inside.getModifiers()));
        }
        all.add(face);
        for (Class<?> any : all) {
            for (Method method : any.getDeclaredMethods()) {
                boolean own = any == face && Modifier.isPublic(method.getModifiers());
                check.holds(method + " has a name of its own", own || !publicNames.contains(method.getName()));
            }
        }
    }

    private static String shown(Method method) {
        StringBuilder text = new StringBuilder();
        text.append(method.getReturnType().getName()).append(' ').append(method.getName()).append('(');
        for (Class<?> type : method.getParameterTypes()) {
            text.append(text.charAt(text.length() - 1) == '(' ? "" : ", ").append(type.getName());
        }
        return text.append(')').toString();
    }
}
