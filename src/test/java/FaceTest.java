import java.lang.reflect.Constructor;
import java.lang.reflect.Field;
import java.lang.reflect.Method;
import java.lang.reflect.Modifier;
import java.util.TreeSet;

/** The public face, and promise 1: a new object. */
public final class FaceTest {
    private static final String[] FACE = {
        "int feed(int,int,int,int,int)", "int member(int)", "int vote(int,int)",
        "boolean pay(int,int)", "boolean lot(int)", "boolean bid(int,int)", "boolean seen(int)",
        "boolean leave(int)", "boolean fail(int)", "int week(int)", "int look(int,int)",
        "long club(int)", "int rule(int)", "int end()", "long beside(int,int)", "int count(int)",
    };

    public static void main(String[] args) {
        methods();
        fieldsAndConstructors();
        newObject();
        Check.end();
    }

    private static void methods() {
        TreeSet<String> want = new TreeSet<>(java.util.List.of(FACE));
        TreeSet<String> got = new TreeSet<>();
        for (Method method : BuildingClub.class.getDeclaredMethods()) {
            if (!Modifier.isPrivate(method.getModifiers())) {
                got.add(told(method));
            }
        }
        Check.due("the methods are " + got + ": the face", got.equals(want), true);
    }

    private static String told(Method method) {
        StringBuilder text = new StringBuilder();
        text.append(method.getReturnType()).append(' ').append(method.getName()).append('(');
        for (int i = 0; i < method.getParameterCount(); i++) {
            text.append(i == 0 ? "" : ",").append(method.getParameterTypes()[i]);
        }
        return text.append(')').toString();
    }

    private static void fieldsAndConstructors() {
        int seen = 0;
        for (Field field : BuildingClub.class.getDeclaredFields()) {
            seen += Modifier.isPrivate(field.getModifiers()) ? 0 : 1;
        }
        Check.due("fields that can be seen", seen, 1);
        Check.due("NONE", BuildingClub.NONE, -1);
        Constructor<?>[] made = BuildingClub.class.getDeclaredConstructors();
        Check.due("constructors", made.length, 1);
        Check.due("parameters of the constructor", made[0].getParameterCount(), 0);
        Check.due("public constructor", Modifier.isPublic(made[0].getModifiers()), true);
        Check.due("final class", Modifier.isFinal(BuildingClub.class.getModifiers()), true);
    }

    private static void newObject() {
        BuildingClub club = new BuildingClub();
        for (int what = 0; what <= 7; what++) {
            Check.due("count(" + what + ") of a new object", club.count(what), 0);
            Check.due("club(" + what + ") of a new object", club.club(what), 0);
        }
        int[] first = {20, 10, 5, 600, 3, 0, 80, 4};
        for (int i = 0; i < first.length; i++) {
            char letter = "srfhgblq".charAt(i);
            Check.due("rule of " + letter + " at first", club.rule(letter), first[i]);
        }
        Check.due("look(0, 0) of a new object", club.look(0, 0), -1);
        Check.due("end() of a new object", club.end(), 0);
    }
}
