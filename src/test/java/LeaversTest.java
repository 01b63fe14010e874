/** Promise 9: leavers, what is due to them and when they get it. */
public final class LeaversTest {
    public static void main(String[] args) {
        noSuchMember();
        notIn();
        withAHouse();
        hundredthsRoundedDown();
        noHundredthsAndAll();
        allCredit();
        arrearsAndBidAreNothing();
        aheadOfWeekOne();
        rulesOfTheLastWeek();
        weekHasCome();
        noWeeksAndMost();
        asWhenTheyLeft();
        cashNotBelow();
        inTheOrderInWhichTheyLeft();
        oneMakesAllBehindWait();
        notYetDueDoesNotBlock();
        nothingIsDue();
        allTwelve();
        Check.end();
    }

    private static void noSuchMember() {
        Check.sentence("leave: likewise (false: no such ones)");
        BuildingClub club = Check.club(1, 1);
        int[] wrong = {2, 11, 12, 32, -1, Integer.MAX_VALUE, Integer.MIN_VALUE};
        for (int m : wrong) {
            Check.due("leave(" + m + ")", club.leave(m), false);
        }
        Check.due("those in", club.count(1), 2);
        Check.due("calls that were done", club.count(6), 2);
        Check.due("of an empty club", new BuildingClub().leave(0), false);
    }

    private static void notIn() {
        Check.sentence("leave: false, too: not IN");
        BuildingClub club = Check.club(1, 1);
        club.pay(0, 100);
        Check.due("leave", club.leave(0), true);
        Check.due("leave again", club.leave(0), false);
        Check.due("due", club.look(0, 10), 100);
        club.week(4);
        Check.due("got", club.look(0, 11), 100);
        Check.due("leave behind that", club.leave(0), false);
        Check.due("nothing is due", club.look(0, 10), 0);
        Check.due("the last one leaves", club.leave(1), true);
        Check.due("those in", club.count(1), 0);
        Check.due("members", club.count(0), 2);
    }

    private static void withAHouse() {
        Check.sentence("leave: false, too: with a HOUSE");
        BuildingClub club = Check.club("h20;g1", 500, 1, 1);
        club.week(1);
        Check.due("one with a house under work", club.leave(0), false);
        Check.due("in", club.look(0, 1), 1);
        Check.due("one without", club.leave(1), true);
        club.seen(0);
        club.week(1);
        Check.due("one with a house that is done", club.leave(0), false);
        Check.due("credit stays", club.look(0, 2), 500 - 20 - 30);
    }

    private static void hundredthsRoundedDown() {
        Check.sentence("due to them are l hundredths of what they have PAID, rounded down");
        BuildingClub club = Check.club("s33;l33", 33, 1);
        club.week(1);
        club.leave(0);
        Check.due("33 hundredths of 33 are 10.89", club.look(0, 10), 10);
        BuildingClub just = Check.club("s50;l98", 50, 1);
        just.week(1);
        just.leave(0);
        Check.due("98 hundredths of 50", just.look(0, 10), 49);
        BuildingClub below = Check.club("s1;l99", 1, 1);
        below.week(1);
        below.leave(0);
        Check.due("99 hundredths of 1", below.look(0, 10), 0);
        BuildingClub all = Check.club("s20;l50;f5", 0, 1);
        all.week(1);
        all.pay(0, 45);
        all.week(1);
        all.leave(0);
        Check.due("fines are paid, too: half of 45", all.look(0, 10), 22);
    }

    private static void noHundredthsAndAll() {
        Check.sentence("l how many hundredths a leaver gets back (0 to 100; 80)");
        int[] hundredths = {0, 1, 100};
        int[] want = {3, 4, 103};
        for (int i = 0; i < hundredths.length; i++) {
            BuildingClub club = Check.club("s100;l" + hundredths[i], 103, 1);
            club.week(1);
            club.leave(0);
            Check.due("l" + hundredths[i] + " of 100, and 3", club.look(0, 10), want[i]);
        }
        BuildingClub first = Check.club(1);
        first.pay(0, 20);
        first.week(1);
        first.leave(0);
        Check.due("80 hundredths of 20 at first", first.look(0, 10), 16);
    }

    private static void allCredit() {
        Check.sentence("and all CREDIT, which comes to CASH");
        BuildingClub club = Check.club("s33;l33;q2", 0, 1, 1);
        club.pay(0, 50);
        club.pay(1, 33);
        club.week(1);
        Check.due("cash", club.club(0), 66);
        club.leave(0);
        Check.due("due", club.look(0, 10), 10 + 17);
        Check.due("credit", club.look(0, 2), 0);
        Check.due("cash", club.club(0), 66 + 17);
        Check.due("due to leavers", club.club(5), 27);
        Check.due("credits together", club.club(3), 0);
        Check.due("paid stays", club.look(0, 4), 33);
        Check.due("shares stay", club.look(0, 0), 1);
        Check.due("it is not in", club.look(0, 1), 0);
        Check.due("paid in stays", club.club(7), 83);
        club.week(2);
        Check.due("got", club.look(0, 11), 27);
        Check.due("nothing is due then", club.look(0, 10), 0);
        Check.due("nor to leavers", club.club(5), 0);
        Check.due("paid to leavers", club.club(6), 27);
        Check.due("cash", club.club(0), 83 - 27);
        club.week(3);
        Check.due("got once", club.look(0, 11), 27);
    }

    private static void arrearsAndBidAreNothing() {
        Check.sentence("their ARREARS and BID are 0 then");
        BuildingClub club = Check.club(2, 1);
        club.pay(0, 39);
        club.bid(0, 77);
        club.bid(1, 78);
        club.week(1);
        Check.due("arrears", club.look(0, 3), 50);
        Check.due("leave with arrears", club.leave(0), true);
        Check.due("arrears are 0", club.look(0, 3), 0);
        Check.due("the bid is 0", club.look(0, 9), 0);
        Check.due("nothing is kept back for arrears", club.look(0, 10), 39);
        Check.due("the other's arrears", club.look(1, 3), 25);
        Check.due("the other's bid", club.look(1, 9), 78);
        club.week(1);
        Check.due("arrears stay 0", club.look(0, 3), 0);
    }

    private static void aheadOfWeekOne() {
        Check.sentence("ahead of WEEK 1 as at first");
        BuildingClub club = Check.club("l0;q0", 100, 1, 1);
        Check.due("leave ahead of week 1", club.leave(0), true);
        Check.due("all credit", club.look(0, 10), 100);
        club.week(3);
        Check.due("3 of 4 weeks", club.look(0, 11), 0);
        club.week(1);
        Check.due("week 4", club.look(0, 11), 100);
    }

    private static void rulesOfTheLastWeek() {
        Check.sentence("(by RULES in force for the last WEEK");
        BuildingClub club = Check.club("l50;q1", 100, 1, 1, 1);
        club.week(1);
        Check.vote(club, 7, "l100;q9");
        club.leave(0);
        Check.due("not by rules that come next", club.look(0, 10), 90);
        club.week(1);
        Check.due("nor the weeks of those", club.look(0, 11), 90);
        club.leave(1);
        Check.due("by those rules a week later", club.look(1, 10), 100);
    }

    private static void weekHasCome() {
        Check.sentence("those of them whose WEEK has come (q [..] behind the one that had gone by last then)");
        BuildingClub club = Check.club("q2;l100", 200, 1, 1);
        club.week(3);
        club.leave(0);
        club.week(1);
        Check.due("week 4", club.look(0, 11), 0);
        Check.due("still due", club.look(0, 10), 200);
        club.week(1);
        Check.due("week 5", club.look(0, 11), 200);
    }

    private static void noWeeksAndMost() {
        Check.sentence("q how many WEEKS later (0 to 99; 4)");
        BuildingClub club = Check.club("q0;l100", 100, 1, 1);
        club.week(1);
        club.leave(0);
        Check.due("not at once", club.look(0, 11), 0);
        club.week(1);
        Check.due("in the next week", club.look(0, 11), 100);
        BuildingClub one = Check.club("q1;l100", 100, 1, 1);
        one.week(1);
        one.leave(0);
        one.week(1);
        Check.due("q1: in the next week, too", one.look(0, 11), 100);
        BuildingClub most = Check.club("q99;l100", 100, 1, 1);
        most.week(1);
        most.leave(0);
        most.week(98);
        Check.due("98 weeks", most.look(0, 11), 0);
        most.week(1);
        Check.due("99 weeks", most.look(0, 11), 100);
    }

    private static void asWhenTheyLeft() {
        Check.sentence("(q, as when they left");
        BuildingClub club = Check.club("l100;q9", 100, 1, 1);
        club.week(1);
        club.leave(0);
        Check.vote(club, 2, "l0;q0");
        club.week(8);
        Check.due("its week stays", club.look(0, 11), 0);
        Check.due("what is due stays", club.look(0, 10), 100);
        club.week(1);
        Check.due("its week", club.look(0, 11), 100);
    }

    /** A house took all dues; number 1 left, 100 is due to it, and its credit of 50 is all cash. */
    private static BuildingClub withoutCash(String rules) {
        BuildingClub club = Check.club("s50;r0;f0;l100;q0;h100", 0, 1, 1);
        club.pay(0, 50);
        club.pay(1, 100);
        club.week(1);
        Check.vote(club, 3, rules);
        club.leave(1);
        return club;
    }

    private static void cashNotBelow() {
        Check.sentence("the first gets what is due to them, if CASH is not below it");
        BuildingClub club = withoutCash("s49;r0;f0");
        Check.due("cash", club.club(0), 50);
        Check.due("due", club.look(1, 10), 100);
        club.pay(0, 49);
        club.week(1);
        Check.due("a penny below", club.look(1, 11), 0);
        Check.due("cash stays", club.club(0), 99);
        Check.due("it waits", club.look(1, 10), 100);
        BuildingClub just = withoutCash("s50;r0;f0");
        just.pay(0, 50);
        just.week(1);
        Check.due("just enough", just.look(1, 11), 100);
        Check.due("no cash is left", just.club(0), 0);
    }

    private static void inTheOrderInWhichTheyLeft() {
        Check.sentence("LEAVERS, in the order in which they left");
        BuildingClub club = Check.club("s40;r0;h160;q1;l100;f0", 100, 1, 1, 1, 1);
        club.week(1);
        Check.due("a house took all cash", club.club(0), 0);
        Check.vote(club, 15, "s1;r0;f0;h999");
        club.leave(3);
        club.leave(1);
        Check.due("cash", club.club(0), 120);
        club.week(1);
        Check.due("who left first", club.look(3, 11), 100);
        Check.due("not the lower number", club.look(1, 11), 0);
        Check.due("cash", club.club(0), 22);
    }

    private static void oneMakesAllBehindWait() {
        Check.sentence("one who does not get it makes all behind wait");
        BuildingClub club = Check.club("s10;r0;h40;q1;l100;f0", 0, 1, 1, 1, 1);
        club.pay(0, 100);
        club.pay(1, 100);
        club.pay(2, 11);
        club.pay(3, 10);
        club.week(1);
        Check.due("a house took all cash", club.club(0), 0);
        Check.vote(club, 15, "s1;r0;f0;h999");
        club.leave(1);
        club.leave(2);
        club.leave(3);
        Check.due("cash", club.club(0), 91);
        club.week(1);
        Check.due("92, not 100", club.look(1, 11), 0);
        Check.due("the next waits", club.look(2, 11), 0);
        Check.due("the last one, too", club.look(3, 11), 0);
        club.week(8);
        Check.due("100", club.look(1, 11), 100);
        Check.due("the next waits", club.look(2, 11), 0);
        club.week(10);
        Check.due("10, not 11", club.club(6), 100);
        club.week(1);
        Check.due("the next gets it", club.look(2, 11), 11);
        Check.due("paid to leavers", club.club(6), 111);
        Check.due("due to leavers", club.club(5), 10);
        club.week(10);
        Check.due("the last one, too", club.look(3, 11), 10);
        Check.duePennies("behind all leavers", club);
    }

    private static void notYetDueDoesNotBlock() {
        Check.sentence("those of them whose WEEK has come: the first gets");
        BuildingClub club = Check.club("s10;h9999;q9;l100", 0, 1, 1, 1);
        club.pay(0, 500);
        club.pay(1, 10);
        club.pay(2, 500);
        club.week(1);
        Check.vote(club, 7, "s10;h500;q0;l100");
        club.leave(0);
        club.week(1);
        Check.due("the cash went into a house", club.club(0), 530 - 500);
        club.leave(1);
        Check.due("due to the first", club.look(0, 10), 500);
        club.week(1);
        Check.due("who left later, and is due sooner", club.look(1, 11), 10);
        Check.due("cash", club.club(0), 30 + 20 - 10);
        club.week(7);
        Check.due("the first waits for cash", club.look(0, 11), 0);
    }

    private static void nothingIsDue() {
        Check.sentence("a leaver to whom nothing is due");
        BuildingClub club = Check.club("q0", 0, 1, 1, 1);
        club.pay(2, 100);
        club.week(1);
        club.leave(0);
        club.leave(2);
        Check.due("nothing", club.look(0, 10), 0);
        club.week(2);
        Check.due("it got nothing", club.look(0, 11), 0);
        Check.due("and makes nobody wait", club.look(2, 11), 16 + 80);
        Check.due("due to leavers", club.club(5), 0);
    }

    private static void allTwelve() {
        Check.sentence("MEMBERS 0 to 11: all of them leave");
        BuildingClub club = Check.club("q0;l100;s1", 10, 1, 1, 1, 1, 1, 1, 1, 1, 1, 1, 1, 1);
        club.week(1);
        for (int m = 11; m >= 0; m--) {
            Check.due("leave(" + m + ")", club.leave(m), true);
        }
        Check.due("those in", club.count(1), 0);
        Check.due("due to leavers", club.club(5), 120);
        club.week(1);
        for (int m = 0; m < 12; m++) {
            Check.due("got by " + m, club.look(m, 11), 10);
        }
        Check.due("cash", club.club(0), 0);
        Check.due("the end", club.end(), 2);
        Check.due("cash without the vote: waits to week 5", club.beside(0, 0), 120);
    }
}
