import java.lang.reflect.Constructor;
import java.lang.reflect.Field;
import java.lang.reflect.Method;
import java.lang.reflect.Modifier;
import java.util.Set;
import java.util.TreeSet;

/** The public face: just what the document tells, and nothing else to be seen from outside. */
public final class FaceTest {
    private static final Due due = new Due();
    private static final String[] METHODS = {"int type(int,int)", "int wipe(int)", "int undo(int)", "int fault(int)",
        "int house(int,int)", "int rate(int)", "int wall(int,int)", "int suit(int,int,int)", "int shut(int,int)",
        "int back(int)", "int read(int)", "int through(int,int)", "int owes(int,int,int)", "int balance(int,int)",
        "int coin(int)", "int broke(int)", "int richest(int)", "int payments(int)", "int rings(int,int)",
        "int build(int,int,int)", "int fair(int,int,int)", "int drop(int,int)", "int seen(int,int,int)",
        "int forget()", "int never()", "int leaked(int)", "int ask(int)", "long court(int,int,int,int)",
        "int month(int,int,int)", "int sheet(int,int,int)", "int lose(int)", "int put(int,int,int,int)",
        "int get(int,int,int)", "int copy(int,int,int,int,int)", "int write(int,int)", "int count(int)",
        "long digest()"};

    public static void main(String[] args) {
        Set<String> names = new TreeSet<>();
        Set<String> face = new TreeSet<>();
        for (Method method : SoundPaid.class.getDeclaredMethods()) {
            if (Modifier.isPrivate(method.getModifiers()) || method.isSynthetic()) continue;
            due.is("public " + method.getName(), method.getModifiers(), Modifier.PUBLIC);
            face.add(told(method));
            names.add(method.getName());
        }
        for (String method : METHODS) due.is("has " + method, face.contains(method) ? 1 : 0, 1);
        due.is("methods", face.size(), METHODS.length);
        for (Method method : SoundPaid.class.getDeclaredMethods()) {
            boolean alike = Modifier.isPrivate(method.getModifiers()) && names.contains(method.getName());
            due.is("private with a public name: " + method.getName(), alike ? 1 : 0, 0);
        }
        constantsAndFields();
        due.is("class", SoundPaid.class.getModifiers(), Modifier.PUBLIC | Modifier.FINAL);
        Constructor<?>[] made = SoundPaid.class.getDeclaredConstructors();
        due.is("constructors", made.length, 1);
        due.is("constructor is public", made[0].getModifiers(), Modifier.PUBLIC);
        due.is("constructor takes nothing", made[0].getParameterCount(), 0);
        for (Class<?> inside : SoundPaid.class.getDeclaredClasses()) {
            due.is("static " + inside.getName(), Modifier.isStatic(inside.getModifiers()) ? 1 : 0, 1);
            due.is("public " + inside.getName(), Modifier.isPublic(inside.getModifiers()) ? 1 : 0, 0);
        }
        due.end();
    }

    private static void constantsAndFields() {
        Set<String> constants = Set.of("NONE", "BAD", "NOT", "FULL");
        for (Field field : SoundPaid.class.getDeclaredFields()) {
            int seen = constants.contains(field.getName()) ? Modifier.PUBLIC : Modifier.PRIVATE;
            int access = field.getModifiers() & (Modifier.PUBLIC | Modifier.PRIVATE | Modifier.PROTECTED);
            due.is("access of " + field.getName(), access, seen);
            boolean stays = !Modifier.isStatic(field.getModifiers()) || Modifier.isFinal(field.getModifiers());
            due.is("static and not final: " + field.getName(), stays ? 0 : 1, 0);
        }
    }

    private static String told(Method method) {
        StringBuilder row = new StringBuilder(method.getReturnType().getName() + " " + method.getName() + "(");
        for (Class<?> type : method.getParameterTypes()) {
            if (row.charAt(row.length() - 1) != '(') row.append(',');
            row.append(type.getName());
        }
        return row.append(')').toString();
    }
}
