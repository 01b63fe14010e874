import java.util.ArrayList;
import java.util.List;
import java.util.function.Consumer;
import java.util.function.ToIntFunction;

/**
 * "A call that is refused (NONE, false) changes nothing but the tape, where it is told." Of two
 * clubs with the same calls one has a refused call more: they stand alike then, and later on.
 */
public final class RefusedCallsTest {
    private record Refused(String name, ToIntFunction<BuildingClub> call) {
    }

    private static final int[] WRONG_MEMBERS = {3, 11, 12, 13, 31, 32, 33, -1, Integer.MAX_VALUE, Integer.MIN_VALUE};

    public static void main(String[] args) {
        inANewClub();
        aheadOfWeekOne();
        inTheMidst();
        whileAHouseLacks();
        withTwelveMembers();
        votesThatAreNotCarried();
        Check.end();
    }

    private static void add(List<Refused> list, String name, ToIntFunction<BuildingClub> call) {
        list.add(new Refused(name, call));
    }

    private static int done(boolean answer) {
        return answer ? 1 : -1;
    }

    /** What no club of up to three members does, however it stands. */
    private static List<Refused> refusedAnywhere() {
        List<Refused> list = new ArrayList<>();
        for (int shares : new int[] {0, 6, -1, 100, Integer.MAX_VALUE, Integer.MIN_VALUE}) {
            add(list, "member(" + shares + ")", club -> club.member(shares));
        }
        for (int set : new int[] {8, 9, 0x1000, 0x80000000, -1, Integer.MAX_VALUE}) {
            add(list, "vote(" + set + ", 3)", club -> club.vote(set, 3));
        }
        for (int n : new int[] {61, 80, -1, Integer.MAX_VALUE, Integer.MIN_VALUE}) {
            add(list, "vote(0, " + n + ")", club -> club.vote(0, n));
        }
        for (int n : new int[] {0, -1, 101, Integer.MAX_VALUE, Integer.MIN_VALUE}) {
            add(list, "week(" + n + ")", club -> club.week(n));
        }
        for (int n : new int[] {-1, 10001, Integer.MAX_VALUE, Integer.MIN_VALUE}) {
            add(list, "lot(" + n + ")", club -> done(club.lot(n)));
        }
        for (int m : WRONG_MEMBERS) {
            addOfMember(list, m);
            add(list, "pay(" + m + ", 5)", club -> done(club.pay(m, 5)));
            add(list, "bid(" + m + ", 5)", club -> done(club.bid(m, 5)));
        }
        for (int pence : new int[] {0, -1, 100001, Integer.MAX_VALUE, Integer.MIN_VALUE}) {
            add(list, "pay(0, " + pence + ")", club -> done(club.pay(0, pence)));
        }
        for (int pence : new int[] {-1, 5001, Integer.MAX_VALUE, Integer.MIN_VALUE}) {
            add(list, "bid(0, " + pence + ")", club -> done(club.bid(0, pence)));
        }
        return list;
    }

    private static void addOfMember(List<Refused> list, int m) {
        add(list, "seen(" + m + ")", club -> done(club.seen(m)));
        add(list, "fail(" + m + ")", club -> done(club.fail(m)));
        add(list, "leave(" + m + ")", club -> done(club.leave(m)));
    }

    private static void compare(String where, List<Refused> list, Consumer<BuildingClub> before) {
        for (Refused refused : list) {
            BuildingClub club = new BuildingClub();
            BuildingClub twin = new BuildingClub();
            before.accept(club);
            before.accept(twin);
            String name = where + ", " + refused.name;
            Check.due(name, refused.call.applyAsInt(club), -1);
            Check.due(name + ": how it stands", Standing.of(club), Standing.of(twin));
            later(club);
            later(twin);
            Check.due(name + ": how it stands later", Standing.of(club), Standing.of(twin));
        }
    }

    /** Brings to light what no question tells at once: the tape's bytes, the number, what is seen. */
    private static void later(BuildingClub club) {
        int in = 0;
        for (int m = 0; m < club.count(0); m++) {
            in |= club.look(m, 1) << m;
        }
        club.vote(in, club.count(7) > 2 ? 3 : 0);
        club.week(1);
        club.pay(0, 300);
        club.pay(1, 300);
        club.week(6);
    }

    private static void inANewClub() {
        Check.sentence("A call that is refused changes nothing: a new club");
        List<Refused> list = refusedAnywhere();
        add(list, "vote(1, 0)", club -> club.vote(1, 0));
        add(list, "vote(0, 1)", club -> club.vote(0, 1));
        add(list, "pay(0, 5)", club -> done(club.pay(0, 5)));
        add(list, "bid(0, 0)", club -> done(club.bid(0, 0)));
        addOfMember(list, 0);
        compare("a new club", list, club -> { });
    }

    private static void aheadOfWeekOne() {
        Check.sentence("A call that is refused changes nothing: ahead of WEEK 1");
        List<Refused> list = refusedAnywhere();
        add(list, "a full tape", club -> club.feed(0x73393939, 0, 0, 0, 0));
        add(list, "the leaver votes", club -> club.vote(7, 3));
        add(list, "the leaver leaves", club -> done(club.leave(1)));
        add(list, "the leaver pays", club -> done(club.pay(1, 5)));
        add(list, "the leaver bids", club -> done(club.bid(1, 5)));
        compare("ahead of week 1", list, club -> {
            club.member(2);
            club.member(1);
            club.member(3);
            Check.vote(club, 7, "h60;s15;q1");
            club.pay(0, 90);
            club.pay(1, 50);
            club.pay(2, 200);
            club.leave(1);
            club.bid(2, 30);
            club.lot(3);
            Check.feed(club, "s33;" + "r12;".repeat(14));
        });
    }

    private static void midst(BuildingClub club) {
        club.member(2);
        club.member(1);
        club.member(1);
        Check.vote(club, 7, "h60;s20;b1;g3;q3;l75");
        club.pay(0, 400);
        club.pay(1, 20);
        club.pay(2, 500);
        club.bid(0, 30);
        club.week(1);
        club.seen(0);
        club.week(1);
        club.bid(2, 12);
        club.lot(2);
        club.seen(0);
        Check.vote(club, 7, "h75;s21;g2;b0");
        Check.feed(club, "f99;h12345");
    }

    private static void inTheMidst() {
        Check.sentence("A call that is refused changes nothing: in the midst");
        List<Refused> list = refusedAnywhere();
        add(list, "more bytes than there are", club -> club.vote(7, 21));
        add(list, "seen again", club -> done(club.seen(0)));
        add(list, "leave with a house", club -> done(club.leave(0)));
        add(list, "seen without a house", club -> done(club.seen(1)));
        add(list, "fail without a house", club -> done(club.fail(1)));
        compare("in the midst", list, RefusedCallsTest::midst);
    }

    private static void whileAHouseLacks() {
        Check.sentence("A call that is refused changes nothing: while a HOUSE LACKS something");
        List<Refused> list = refusedAnywhere();
        addOfMember(list, 0);
        compare("while a house lacks something", list, club -> {
            club.member(1);
            club.member(1);
            Check.vote(club, 3, "h100;g2;s50;r0;f0");
            club.pay(0, 50);
            club.pay(1, 50);
            club.week(1);
            club.seen(0);
            club.week(1);
            club.fail(0);
            Check.feed(club, "s60;r0;f0");
        });
    }

    private static void withTwelveMembers() {
        Check.sentence("A call that is refused changes nothing: with 12 MEMBERS");
        List<Refused> list = new ArrayList<>();
        add(list, "a thirteenth", club -> club.member(1));
        add(list, "number 12 votes", club -> club.vote(0x1fff, 3));
        add(list, "number 12 pays", club -> done(club.pay(12, 5)));
        add(list, "number 12 bids", club -> done(club.bid(12, 5)));
        addOfMember(list, 12);
        compare("with 12 members", list, club -> {
            for (int m = 0; m < 12; m++) {
                club.member(1 + m % 5);
            }
            Check.feed(club, "s44");
        });
    }

    /** The tape alone is told to change: it is empty. */
    private static void votesThatAreNotCarried() {
        Check.sentence("A VOTE for the first n bytes of the tape (empty then): -2, or a FAULT");
        int[][] votes = {{2, 3, -2}, {0, 3, -2}, {7, 10, -309}, {7, 4, -104}, {7, 0, -100}, {7, 20, -309}};
        for (int[] one : votes) {
            BuildingClub club = new BuildingClub();
            BuildingClub twin = new BuildingClub();
            midst(club);
            midst(twin);
            String name = "vote(" + one[0] + ", " + one[1] + ")";
            Check.due(name, club.vote(one[0], one[1]), one[2]);
            Check.due(name + ": the tape", club.count(7), 0);
            Check.due(name + ": all else", Standing.withoutTape(club), Standing.withoutTape(twin));
            twin.vote(7, 0);
            later(club);
            later(twin);
            Check.due(name + ": later", Standing.of(club), Standing.of(twin));
        }
    }
}
