/** Promises 3, 5, 12 and 17: members, what they pay, what is told of them, and counts. */
public final class MembersTest {
    public static void main(String[] args) {
        joining();
        paying();
        looking();
        counting();
        Check.end();
    }

    private static void joining() {
        BuildingClub club = new BuildingClub();
        int[] wrong = {0, -1, 6, Integer.MAX_VALUE, Integer.MIN_VALUE};
        for (int shares : wrong) {
            Check.due("member(" + shares + ")", club.member(shares), -1);
        }
        for (int m = 0; m < 12; m++) {
            Check.due("member " + m, club.member(1 + m % 5), m);
            Check.due("its shares", club.look(m, 0), 1 + m % 5);
            Check.due("it is in", club.look(m, 1), 1);
        }
        Check.due("a thirteenth", club.member(1), -1);
        Check.due("members", club.count(0), 12);
        club.leave(3);
        Check.due("a thirteenth behind a leaver", club.member(1), -1);
        Check.due("members, the leaver too", club.count(0), 12);
        Check.due("those in", club.count(1), 11);
        Check.due("a set of all but the leaver", Check.vote(club, 0xff7, "s1"), 0);
    }

    private static void paying() {
        BuildingClub club = Check.club(1, 2);
        int[][] wrong = {{0, 0}, {0, -5}, {0, 100001}, {0, Integer.MIN_VALUE}, {2, 5}, {-1, 5},
            {12, 5}, {Integer.MAX_VALUE, 5}, {Integer.MIN_VALUE, 5}};
        for (int[] one : wrong) {
            Check.due("pay(" + one[0] + ", " + one[1] + ")", club.pay(one[0], one[1]), false);
        }
        Check.due("nothing was paid", club.club(7), 0);
        Check.due("nothing was done", club.count(6), 2);
        Check.due("one penny", club.pay(0, 1), true);
        Check.due("the most", club.pay(0, 100000), true);
        Check.due("credit", club.look(0, 2), 100001);
        Check.due("nothing counts as paid yet", club.look(0, 4), 0);
        Check.due("paid in", club.club(7), 100001);
        Check.due("credits", club.club(3), 100001);
        Check.due("no cash yet", club.club(0), 0);
        club.leave(1);
        Check.due("a leaver pays", club.pay(1, 5), false);
    }

    private static void looking() {
        BuildingClub club = Check.club(4);
        int[] want = {4, 1, 0, 0, 0, -1, 0, 0, -1, 0, 0, 0, -1};
        for (int what = 0; what < want.length; what++) {
            Check.due("look(0, " + what + ")", club.look(0, what), want[what]);
            Check.due("look(1, " + what + ")", club.look(1, what), -1);
            Check.due("look(-1, " + what + ")", club.look(-1, what), -1);
            Check.due("look(12, " + what + ")", club.look(12, what), -1);
        }
        int[] wrong = {-1, 13, Integer.MAX_VALUE, Integer.MIN_VALUE};
        for (int what : wrong) {
            Check.due("look(0, " + what + ")", club.look(0, what), -1);
            Check.due("club(" + what + ")", club.club(what), -1);
            Check.due("count(" + what + ")", club.count(what), -1);
            Check.due("look(" + what + ", 0)", club.look(what, 0), -1);
        }
        Check.due("club(8)", club.club(8), -1);
        Check.due("count(8)", club.count(8), -1);
        Check.due("look is no call that is kept", club.count(6), 1);
    }

    private static void counting() {
        BuildingClub club = Check.club("h40;g1", 200, 1, 1, 1);
        Check.due("done: three members, a vote, three payments", club.count(6), 7);
        club.leave(2);
        club.week(2);
        club.seen(0);
        club.week(1);
        int[] want = {3, 2, 3, 2, 1, 1, 11, 0};
        for (int what = 0; what < want.length; what++) {
            Check.due("count(" + what + ")", club.count(what), want[what]);
        }
    }
}
