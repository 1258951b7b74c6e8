import java.lang.reflect.Field;
import java.lang.reflect.Member;
import java.lang.reflect.Method;
import java.lang.reflect.Modifier;
import java.util.Set;
import java.util.TreeSet;

/** The public face is the one of the document, and nothing beside it can be seen. */
public final class FaceTest {
    private static final Set<String> METHODS = Set.of(
        "public int TwoWayDesk.offer(int,int)",
        "public int TwoWayDesk.probe(int,int)",
        "public boolean TwoWayDesk.withdraw(int)",
        "public int TwoWayDesk.change(int,int,int)",
        "public int TwoWayDesk.pin(int,int)",
        "public boolean TwoWayDesk.unpin(int)",
        "public int TwoWayDesk.jobs()",
        "public int TwoWayDesk.way(int,int)",
        "public int TwoWayDesk.forced(int)",
        "public boolean TwoWayDesk.implies(int,int,int,int)",
        "public int TwoWayDesk.planned(int)",
        "public boolean TwoWayDesk.alwaysTaken(int,int)",
        "public boolean TwoWayDesk.couldKeepFree(int)",
        "public int TwoWayDesk.forcedJobs()",
        "public int TwoWayDesk.flips()");
    private static final Set<String> FIELDS = Set.of(
        "public static final int TwoWayDesk.BAD",
        "public static final int TwoWayDesk.FULL",
        "public static final int TwoWayDesk.REFUSED",
        "public static final int TwoWayDesk.NONE");

    public static void main(String[] args) {
        Class<?> face = TwoWayDesk.class;
        Checks.due("the class is public", Modifier.isPublic(face.getModifiers()), true);
        Checks.due("the class is final", Modifier.isFinal(face.getModifiers()), true);
        Checks.due("the class extends no other", face.getSuperclass() == Object.class, true);
        Checks.due("interfaces", face.getInterfaces().length, 0);
        Checks.due("classes inside", face.getDeclaredClasses().length, 0);
        Checks.due("constructors", face.getDeclaredConstructors().length, 1);
        Checks.due("public constructors", face.getConstructors().length, 1);
        same("methods", visible(face.getDeclaredMethods()), METHODS);
        same("fields", visible(face.getDeclaredFields()), FIELDS);
        noPrivateMethodWithAPublicName(face);
        staticFieldsAreConstants(face);
        Checks.due("BAD", TwoWayDesk.BAD, -1);
        Checks.due("FULL", TwoWayDesk.FULL, -2);
        Checks.due("REFUSED", TwoWayDesk.REFUSED, -3);
        Checks.due("NONE", TwoWayDesk.NONE, -1);
        Checks.end();
    }

    private static Set<String> visible(Member[] members) {
        Set<String> texts = new TreeSet<>();
        for (Member member : members) {
            if (!Modifier.isPrivate(member.getModifiers())) {
                texts.add(member.toString());
            }
        }
        return texts;
    }

    private static void same(String what, Set<String> got, Set<String> want) {
        if (!got.equals(want)) {
            System.out.println(what + " that can be seen: " + got);
        }
        Checks.due(what + " are those of the document", got.equals(want), true);
    }

    private static void noPrivateMethodWithAPublicName(Class<?> face) {
        Set<String> names = new TreeSet<>();
        for (Method method : face.getMethods()) {
            names.add(method.getName());
        }
        for (Method method : face.getDeclaredMethods()) {
            if (Modifier.isPrivate(method.getModifiers())) {
                Checks.due("private " + method.getName() + " bears a public name", names.contains(method.getName()), false);
            }
        }
    }

    private static void staticFieldsAreConstants(Class<?> face) {
        for (Field field : face.getDeclaredFields()) {
            if (Modifier.isStatic(field.getModifiers())) {
                boolean number = field.getType() == int.class || field.getType() == long.class;
                Checks.due(field.getName() + " is a constant", number && Modifier.isFinal(field.getModifiers()), true);
            }
        }
    }
}
