import java.lang.reflect.Constructor;
import java.lang.reflect.Field;
import java.lang.reflect.Method;
import java.lang.reflect.Modifier;
import java.util.TreeSet;

/** The public face, and promise 1: a new object. */
public final class FaceTest {
    private static final String[] FACE = {
        "int feed(int,int,int,int,int)", "int member(int)", "int vote(int,int)",
        "boolean pay(int,int)", "boolean lot(int)", "boolean bid(int,int)", "boolean seen(int)",
        "boolean leave(int)", "boolean fail(int)", "int week(int)", "int look(int,int)",
        "long club(int)", "int rule(int)", "int end()", "long beside(int,int)", "int count(int)",
    };

    public static void main(String[] args) {
        methods();
        fieldsAndConstructors();
        newObject();
        memoryOfItsOwn();
        Check.end();
    }

    private static void methods() {
        TreeSet<String> want = new TreeSet<>(java.util.List.of(FACE));
        TreeSet<String> got = new TreeSet<>();
        for (Method method : BuildingClub.class.getDeclaredMethods()) {
            if (!Modifier.isPrivate(method.getModifiers())) {
                got.add(told(method));
            }
        }
        Check.due("the methods are " + got + ": the face", got.equals(want), true);
    }

    private static String told(Method method) {
        StringBuilder text = new StringBuilder();
        text.append(method.getReturnType()).append(' ').append(method.getName()).append('(');
        for (int i = 0; i < method.getParameterCount(); i++) {
            text.append(i == 0 ? "" : ",").append(method.getParameterTypes()[i]);
        }
        return text.append(')').toString();
    }

    private static void fieldsAndConstructors() {
        int seen = 0;
        for (Field field : BuildingClub.class.getDeclaredFields()) {
            seen += Modifier.isPrivate(field.getModifiers()) ? 0 : 1;
        }
        Check.due("fields that can be seen", seen, 1);
        Check.due("NONE", BuildingClub.NONE, -1);
        Constructor<?>[] made = BuildingClub.class.getDeclaredConstructors();
        Check.due("constructors", made.length, 1);
        Check.due("parameters of the constructor", made[0].getParameterCount(), 0);
        Check.due("public constructor", Modifier.isPublic(made[0].getModifiers()), true);
        Check.due("final class", Modifier.isFinal(BuildingClub.class.getModifiers()), true);
    }

    private static void newObject() {
        Check.sentence("No MEMBERS, WEEK 0, RULES as at first.");
        BuildingClub club = new BuildingClub();
        for (int what = 0; what <= 7; what++) {
            Check.due("count(" + what + ") of a new object", club.count(what), 0);
            Check.due("club(" + what + ") of a new object", club.club(what), 0);
        }
        int[] first = {20, 10, 5, 600, 3, 0, 80, 4};
        for (int i = 0; i < first.length; i++) {
            char letter = "srfhgblq".charAt(i);
            Check.due("rule of " + letter + " at first", club.rule(letter), first[i]);
        }
        for (int what = 0; what <= 12; what++) {
            Check.due("look(0, " + what + ") of a new object", club.look(0, what), -1);
        }
        Check.due("end() of a new object", club.end(), 0);
        Check.due("beside(0, 0) of a new object", club.beside(0, 0), -1);
    }

    /** Turn by turn with a second object, each call as if the first were alone. */
    private static void memoryOfItsOwn() {
        Check.sentence("All memory is the club's own.");
        BuildingClub club = Check.club(1);
        BuildingClub other = Check.club(5, 5, 5);
        Check.feed(club, "s30;h90");
        Check.feed(other, "s44;h4444;b1;l9;q8");
        Check.due("bytes of the tape", club.count(7), 20);
        Check.due("the other's vote", other.vote(7, 18), 0);
        Check.due("the vote", club.vote(1, 7), 0);
        Check.due("s", club.rule('s'), 30);
        Check.due("the other's s", other.rule('s'), 44);
        other.pay(0, 1000);
        club.pay(0, 100);
        other.week(2);
        club.week(1);
        Check.due("beside, asked of both", other.beside(0, 10) + club.beside(0, 10), 800 + 80);
        Check.due("beside again", club.beside(0, 0), 20);
        // 440 in hand, 1640 with the arrears of two, 660 a week to week 7, 710 to week 13, then 760.
        Check.due("the other's end", other.end(), 19);
        Check.due("the end", club.end(), 3);
        Check.due("a new object beside them", new BuildingClub().rule('s'), 20);
        Check.due("members", club.count(0), 1);
        Check.due("calls that were done", club.count(6), 4);
    }
}
