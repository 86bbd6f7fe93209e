import java.lang.reflect.Constructor;
import java.lang.reflect.Field;
import java.lang.reflect.Member;
import java.lang.reflect.Method;
import java.lang.reflect.Modifier;
import java.util.Set;
import java.util.TreeSet;

/** The public face is the document's, and nothing besides it is to be seen. */
public final class FaceTest {
    private static final String[] FACE = {
        "write(int)", "wipe()", "fault()", "lay()", "strip(int,int)", "wall(int,int)", "damp(int)",
        "cut(int)", "hook(int,int)", "letGo(int)", "pass(int)", "undo()",
        "plan(int)", "order(int)", "kickFor(int,int)", "waves()", "longest()",
        "seen(int,int)", "forget()", "may(int)",
        "hall(int,int)", "left(int)", "likely(int,int,int,int)", "year(int,int,int)",
        "keep()", "back()", "count(int)",
    };
    private static int wrong = 0;

    private static void due(String what, Object got, Object want) {
        if (!got.equals(want)) {
            wrong++;
            System.out.println(what + ": " + got + ", due is " + want);
        }
    }

    private static String told(Method method) {
        StringBuilder told = new StringBuilder(method.getName()).append('(');
        for (Class<?> type : method.getParameterTypes()) {
            told.append(told.charAt(told.length() - 1) == '(' ? "" : ",").append(type.getName());
        }
        return told.append(')').toString();
    }

    private static void isPublicOrPrivate(Member member) {
        boolean so = Modifier.isPublic(member.getModifiers()) || Modifier.isPrivate(member.getModifiers());
        due(member.getName() + " is public or private", so, true);
    }

    public static void main(String[] args) throws Exception {
        Class<?> face = StretchedCarpet.class;
        due("public final", face.getModifiers(), Modifier.PUBLIC | Modifier.FINAL);

        Set<String> methods = new TreeSet<>();
        Set<String> hidden = new TreeSet<>();
        for (Method method : face.getDeclaredMethods()) {
            isPublicOrPrivate(method);
            if (Modifier.isPublic(method.getModifiers())) {
                methods.add(told(method));
                due(method.getName() + " answers", method.getReturnType(), int.class);
                due(method.getName() + " is static", Modifier.isStatic(method.getModifiers()), false);
            } else {
                hidden.add(method.getName() + "(");
            }
        }
        due("methods", methods, new TreeSet<>(Set.of(FACE)));
        for (String method : FACE) {
            due("hidden, too: " + method, hidden.contains(method.substring(0, method.indexOf('(') + 1)), false);
        }

        Set<String> constants = new TreeSet<>();
        for (Field field : face.getDeclaredFields()) {
            isPublicOrPrivate(field);
            if (Modifier.isStatic(field.getModifiers())) {
                due(field.getName() + " is final", Modifier.isFinal(field.getModifiers()), true);
            }
            if (Modifier.isPublic(field.getModifiers())) {
                constants.add(field.getName() + " " + field.getInt(null));
            }
        }
        due("constants", constants, new TreeSet<>(Set.of("BAD -1", "NO -2", "FULL -3", "NONE -4")));

        due("constructors", face.getDeclaredConstructors().length, 1);
        Constructor<?> constructor = face.getDeclaredConstructors()[0];
        due("constructor's modifiers", constructor.getModifiers(), Modifier.PUBLIC);
        due("constructor's parameters", constructor.getParameterCount(), 0);

        for (Class<?> inside : face.getDeclaredClasses()) {
            int modifiers = inside.getModifiers();
            due(inside.getName() + " is static", Modifier.isStatic(modifiers), true);
            due(inside.getName() + " is hidden", Modifier.isPublic(modifiers) || Modifier.isProtected(modifiers), false);
        }
        System.out.println(wrong == 0 ? "all answers are as due" : wrong + " answers are not as due");
        if (wrong != 0) {
            System.exit(1);
        }
    }
}
