import java.nio.charset.StandardCharsets;
import java.util.Arrays;

/** What the tests share: telling a wrong answer, and feeding a text to a club. */
final class Check {
    private static int wrong = 0;
    private static int asked = 0;
    private static int sentences = 0;
    private static int askedBehindSentence = 0;
    private static String sentence = "";

    private Check() {
    }

    /** The words of the document that the answers from here on belong to; each has some. */
    static void sentence(String words) {
        endSentence();
        sentence = words;
        sentences++;
        askedBehindSentence = asked;
    }

    private static void endSentence() {
        if (sentences > 0 && asked == askedBehindSentence) {
            tellWrong("nothing was asked");
        }
    }

    private static void tellWrong(String what) {
        wrong++;
        System.out.println((sentence.isEmpty() ? "" : "[" + sentence + "] ") + what);
    }

    static void due(String call, long got, long want) {
        asked++;
        if (got != want) {
            tellWrong(call + " answered " + got + ", due is " + want);
        }
    }

    static void due(String call, boolean got, boolean want) {
        due(call, got ? 1 : 0, want ? 1 : 0);
    }

    static void due(String what, String got, String want) {
        asked++;
        if (!got.equals(want)) {
            tellWrong(what + ": there is '" + got + "', due is '" + want + "'");
        }
    }

    static void end() {
        endSentence();
        String to = sentences == 0 ? "" : " to " + sentences + " sentences";
        System.out.println(asked + " answers" + to + ", " + wrong + " not as due");
        if (wrong != 0 || asked == 0) {
            System.exit(1);
        }
    }

    /** Feeds the text, twenty bytes a call, zeros behind it. */
    static void feed(BuildingClub club, String text) {
        byte[] bytes = text.getBytes(StandardCharsets.ISO_8859_1);
        for (int from = 0; from < bytes.length || from == 0; from += 20) {
            int[] five = new int[5];
            byte[] twenty = Arrays.copyOfRange(bytes, from, from + 20);
            for (int i = 0; i < 20; i++) {
                five[i / 4] = five[i / 4] << 8 | twenty[i] & 255;
            }
            club.feed(five[0], five[1], five[2], five[3], five[4]);
        }
    }

    static int vote(BuildingClub club, int members, String text) {
        feed(club, text);
        return club.vote(members, text.length());
    }

    /** A club with a member for each number of shares. */
    static BuildingClub club(int... shares) {
        BuildingClub club = new BuildingClub();
        for (int each : shares) {
            club.member(each);
        }
        return club;
    }

    /** A club with rules that all of its members voted, and pence paid in by each of them. */
    static BuildingClub club(String text, int pence, int... shares) {
        BuildingClub club = club(shares);
        if (vote(club, (1 << shares.length) - 1, text) != 0) {
            throw new IllegalStateException("the rules of a test were not carried: " + text);
        }
        for (int m = 0; m < shares.length && pence > 0; m++) {
            club.pay(m, pence);
        }
        return club;
    }

    /** Where each penny is: all that was paid in is in one of the places that the club tells. */
    static void duePennies(String where, BuildingClub club) {
        long placed = club.club(0) + club.club(1) + club.club(3) + club.club(4) + club.club(6);
        due(where + ", all pence", placed, club.club(7));
    }
}
