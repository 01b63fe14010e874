/** Promises 3, 5, 12, 13 and 17: members, what they pay, and what is told of them and the club. */
public final class MembersTest {
    private static final int[] EXTREMES = {-1, -2, 13, 31, 32, 256, Integer.MAX_VALUE, Integer.MIN_VALUE};

    public static void main(String[] args) {
        sharesOneToFive();
        inFromTheBeginning();
        noSuchShares();
        twelveMembers();
        penceOneToManyThousands();
        noSuchPence();
        noSuchMemberPays();
        leaverDoesNotPay();
        aNewMember();
        noHouseIsNone();
        whatOfAHouse();
        noSuchLook();
        noSuchClub();
        noSuchCount();
        eachCount();
        Check.end();
    }

    private static void sharesOneToFive() {
        Check.sentence("MEMBERS 0 to 11, each with SHARES (1 to 5)");
        BuildingClub club = new BuildingClub();
        for (int m = 0; m < 12; m++) {
            Check.due("member " + m, club.member(1 + m % 5), m);
        }
        for (int m = 0; m < 12; m++) {
            Check.due("shares of " + m, club.look(m, 0), 1 + m % 5);
        }
    }

    private static void inFromTheBeginning() {
        Check.sentence("IN from the beginning");
        BuildingClub club = new BuildingClub();
        club.week(3);
        Check.due("member", club.member(2), 0);
        Check.due("in", club.look(0, 1), 1);
        Check.due("those in", club.count(1), 1);
        club.week(1);
        Check.due("owes from the next week on, not for those gone by", club.look(0, 3), 2 * 25);
    }

    private static void noSuchShares() {
        Check.sentence("NONE: no such SHARES");
        BuildingClub club = new BuildingClub();
        int[] wrong = {0, 6, -1, -5, 257, Integer.MAX_VALUE, Integer.MIN_VALUE};
        for (int shares : wrong) {
            Check.due("member(" + shares + ")", club.member(shares), -1);
        }
        Check.due("members", club.count(0), 0);
        Check.due("calls that were done", club.count(6), 0);
        Check.due("the least", club.member(1), 0);
        Check.due("the most", club.member(5), 1);
    }

    private static void twelveMembers() {
        Check.sentence("NONE: [..] 12 are there");
        BuildingClub club = Check.club(1, 1, 1, 1, 1, 1, 1, 1, 1, 1, 1);
        Check.due("the twelfth", club.member(1), 11);
        Check.due("a thirteenth", club.member(1), -1);
        Check.due("members", club.count(0), 12);
        club.leave(3);
        Check.due("a thirteenth behind a leaver", club.member(1), -1);
        Check.due("members, the leaver too", club.count(0), 12);
        Check.due("those in", club.count(1), 11);
        Check.due("number 11 pays", club.pay(11, 7), true);
        Check.due("number 12 does not", club.pay(12, 7), false);
        Check.due("nor does it bid", club.bid(12, 7), false);
        Check.due("nor leave", club.leave(12), false);
        Check.due("nor has it a house that is seen", club.seen(12), false);
        Check.due("or fails", club.fail(12), false);
        Check.due("nothing is told of it", club.look(12, 0), -1);
        Check.due("credit of number 11", club.look(11, 2), 7);
        Check.due("a set of all but the leaver", Check.vote(club, 0xff7, "s1"), 0);
        Check.due("credit of number 11 without that", club.beside(0, 21), 7);
        Check.due("nothing of number 12", club.beside(0, 22), -1);
    }

    private static void penceOneToManyThousands() {
        Check.sentence("A MEMBER who is IN pays pence (1 to 100000): true");
        BuildingClub club = Check.club(1, 2);
        Check.due("one penny", club.pay(0, 1), true);
        Check.due("the most", club.pay(0, 100000), true);
        Check.due("credit", club.look(0, 2), 100001);
        Check.due("credit of the other", club.look(1, 2), 0);
        Check.due("nothing counts as paid yet", club.look(0, 4), 0);
        Check.due("paid in by all", club.club(7), 100001);
        Check.due("credits together", club.club(3), 100001);
        Check.due("no cash yet", club.club(0), 0);
        Check.due("calls that were done", club.count(6), 4);
    }

    private static void noSuchPence() {
        Check.sentence("pay: false: no such ones (pence)");
        BuildingClub club = Check.club(1);
        int[] wrong = {0, -1, -100, 100001, 200000, Integer.MAX_VALUE, Integer.MIN_VALUE};
        for (int pence : wrong) {
            Check.due("pay(0, " + pence + ")", club.pay(0, pence), false);
        }
        Check.due("credit", club.look(0, 2), 0);
        Check.due("paid in", club.club(7), 0);
        Check.due("calls that were done", club.count(6), 1);
    }

    private static void noSuchMemberPays() {
        Check.sentence("pay: false: no such ones (a MEMBER)");
        BuildingClub club = Check.club(1, 1);
        int[] wrong = {2, 3, 11, 12, 13, 32, -1, Integer.MAX_VALUE, Integer.MIN_VALUE};
        for (int m : wrong) {
            Check.due("pay(" + m + ", 5)", club.pay(m, 5), false);
        }
        Check.due("paid in", club.club(7), 0);
        Check.due("calls that were done", club.count(6), 2);
        Check.due("number 0 of an empty club", new BuildingClub().pay(0, 5), false);
    }

    private static void leaverDoesNotPay() {
        Check.sentence("pay: A MEMBER who is IN");
        BuildingClub club = Check.club(1, 1);
        club.leave(1);
        Check.due("a leaver pays", club.pay(1, 5), false);
        Check.due("who is in pays", club.pay(0, 5), true);
        Check.due("paid in", club.club(7), 5);
    }

    private static void aNewMember() {
        Check.sentence("Of MEMBER m, what 0 SHARES, 1 whether it is IN, 2 CREDIT, 3 ARREARS, 4 PAID");
        BuildingClub club = Check.club(4);
        int[] want = {4, 1, 0, 0, 0, -1, 0, 0, -1, 0, 0, 0, -1};
        for (int what = 0; what < want.length; what++) {
            Check.due("look(0, " + what + ")", club.look(0, what), want[what]);
        }
        Check.due("look is no call that was done", club.count(6), 1);
    }

    private static void noHouseIsNone() {
        Check.sentence("5 STAGES paid of its HOUSE (NONE: it has none), 8 the WEEK of its DRAW (NONE), 12 (NONE)");
        BuildingClub club = Check.club("h20;g2", 500, 1, 1);
        club.week(1);
        Check.due("stages paid", club.look(0, 5), 0);
        Check.due("the week of the draw", club.look(0, 8), 1);
        Check.due("stages in all", club.look(0, 12), 2);
        club.leave(1);
        Check.due("a leaver's stages paid", club.look(1, 5), -1);
        Check.due("a leaver's draw", club.look(1, 8), -1);
        Check.due("a leaver's stages", club.look(1, 12), -1);
        Check.due("held for none", club.look(1, 6), 0);
        Check.due("none lacks nothing", club.look(1, 7), 0);
    }

    private static void whatOfAHouse() {
        Check.sentence("6 HELD for it, 7 what the HOUSE LACKS, 9 BID, 10 what is due to it as a leaver, 11 what it got");
        BuildingClub club = Check.club("h100;g2;s50;r0;f0;q0", 50, 1, 1, 1);
        club.bid(1, 12);
        club.week(1);
        club.seen(0);
        club.leave(2);
        club.week(1);
        club.fail(0);
        int[] first = {1, 1, 0, 50, 50, 0, 50, 50, 1, 0, 0, 0, 2};
        int[] second = {1, 1, 0, 50, 50, -1, 0, 0, -1, 12, 0, 0, -1};
        int[] third = {1, 0, 0, 0, 50, -1, 0, 0, -1, 0, 0, 40, -1};
        for (int what = 0; what < first.length; what++) {
            Check.due("look(0, " + what + ")", club.look(0, what), first[what]);
            Check.due("look(1, " + what + ")", club.look(1, what), second[what]);
            Check.due("look(2, " + what + ")", club.look(2, what), third[what]);
        }
    }

    private static void noSuchLook() {
        Check.sentence("look: NONE for others");
        BuildingClub club = Check.club(4);
        for (int what : EXTREMES) {
            Check.due("look(0, " + what + ")", club.look(0, what), -1);
        }
        for (int what = 0; what <= 12; what++) {
            Check.due("look(1, " + what + ")", club.look(1, what), -1);
            Check.due("look(-1, " + what + ")", club.look(-1, what), -1);
            Check.due("look(12, " + what + ")", club.look(12, what), -1);
            Check.due("look(MAX, " + what + ")", club.look(Integer.MAX_VALUE, what), -1);
            Check.due("look(MIN, " + what + ")", club.look(Integer.MIN_VALUE, what), -1);
        }
    }

    private static void noSuchClub() {
        Check.sentence("club: NONE for others");
        BuildingClub club = Check.club(4);
        Check.due("club(7)", club.club(7), 0);
        Check.due("club(8)", club.club(8), -1);
        for (int what : EXTREMES) {
            Check.due("club(" + what + ")", club.club(what), -1);
        }
    }

    private static void noSuchCount() {
        Check.sentence("count: NONE for others");
        BuildingClub club = Check.club(4);
        Check.due("count(7)", club.count(7), 0);
        Check.due("count(8)", club.count(8), -1);
        for (int what : EXTREMES) {
            Check.due("count(" + what + ")", club.count(what), -1);
        }
    }

    private static void eachCount() {
        Check.sentence("0 MEMBERS, 1 those IN, 2 the WEEK, 3 HOUSES drawn, 4 done (all STAGES paid), 5 VOTES CARRIED, 6 calls that were done, 7 bytes of the tape");
        BuildingClub club = Check.club("h40;g1", 200, 1, 1, 1);
        Check.due("done: three members, a vote, three payments", club.count(6), 7);
        club.leave(2);
        club.week(2);
        club.seen(0);
        Check.due("a house under work is not done", club.count(4), 0);
        club.week(1);
        club.feed(0, 0, 0, 0, 0);
        club.feed(0, 0, 0, 0, 0);
        int[] want = {3, 2, 3, 2, 1, 1, 11, 40};
        for (int what = 0; what < want.length; what++) {
            Check.due("count(" + what + ")", club.count(what), want[what]);
        }
    }
}
