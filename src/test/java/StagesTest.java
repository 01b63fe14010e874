/** Promises 8 and 10: HOUSES paid by STAGES as they are SEEN, and THE BUILDER FAILS. */
public final class StagesTest {
    private static final int[] NO_MEMBERS = {2, 11, 12, 32, -1, Integer.MAX_VALUE, Integer.MIN_VALUE};

    public static void main(String[] args) {
        noSuchMemberSeen();
        noneUnderWork();
        seenSinceItsLastStage();
        seenWhileItLacks();
        oneStageForOnceSeen();
        roundedDown();
        asAtTheDraw();
        lastStage();
        leastHouse();
        noSuchMemberFails();
        noStagePaid();
        notTheLastOne();
        stageCountsAsNotPaid();
        notSeen();
        cashNotBelowWhatItCost();
        cashBelowWhatItCost();
        failsWhileItLacks();
        standsStill();
        takenWhenCashIsNotBelow();
        takenBehindTheDraw();
        takenByNumbers();
        eachHouseForItself();
        Check.end();
    }

    /** Number 0 has a house of 100 in two stages, the first one paid; no cash; both have arrears. */
    private static BuildingClub poor() {
        BuildingClub club = Check.club("h100;g2;s50;r0;f0", 50, 1, 1);
        club.week(1);
        club.seen(0);
        club.week(1);
        return club;
    }

    private static void seeAndPay(BuildingClub club, int m, int times) {
        for (int i = 0; i < times; i++) {
            club.seen(m);
            club.week(1);
        }
    }

    private static void noSuchMemberSeen() {
        Check.sentence("seen: likewise (false: no such ones)");
        BuildingClub club = Check.club(1, 1);
        for (int m : NO_MEMBERS) {
            Check.due("seen(" + m + ")", club.seen(m), false);
        }
        Check.due("calls that were done", club.count(6), 2);
        Check.due("of an empty club", new BuildingClub().seen(0), false);
    }

    private static void noneUnderWork() {
        Check.sentence("seen: false, too: it has none under work");
        BuildingClub club = Check.club("h40;g1", 500, 1, 1, 1);
        Check.due("no house yet", club.seen(0), false);
        club.week(1);
        Check.due("a house in the week of its draw", club.seen(0), true);
        Check.due("none of another", club.seen(1), false);
        club.leave(1);
        Check.due("none of a leaver", club.seen(1), false);
        club.week(1);
        Check.due("one that is done", club.seen(0), false);
        club.week(1);
        Check.due("one that is done, later", club.seen(0), false);
    }

    private static void seenSinceItsLastStage() {
        Check.sentence("seen: false, too: it was SEEN since its last STAGE");
        BuildingClub club = Check.club("h40;g3", 500, 1, 1);
        club.week(1);
        Check.due("seen", club.seen(0), true);
        int done = club.count(6);
        Check.due("seen again", club.seen(0), false);
        Check.due("that was not done", club.count(6), done);
        club.week(1);
        Check.due("seen behind its stage", club.seen(0), true);
        Check.due("seen again", club.seen(0), false);
    }

    private static void seenWhileItLacks() {
        Check.sentence("seen: false, too: it LACKS something");
        BuildingClub club = poor();
        club.fail(0);
        Check.due("lacks", club.look(0, 7), 50);
        Check.due("seen", club.seen(0), false);
        club.week(1);
        Check.due("seen a week later", club.seen(0), false);
        club.pay(0, 500);
        club.week(1);
        Check.due("lacks nothing", club.look(0, 7), 0);
        Check.due("seen then", club.seen(0), true);
    }

    private static void oneStageForOnceSeen() {
        Check.sentence("each HOUSE under work [..] that was SEEN since its last STAGE (or the DRAW): its next STAGE is paid");
        BuildingClub club = Check.club("h20;g3", 500, 1);
        club.week(3);
        Check.due("never seen", club.look(0, 5), 0);
        club.seen(0);
        club.week(5);
        Check.due("seen once", club.look(0, 5), 1);
        club.seen(0);
        club.week(1);
        Check.due("seen twice", club.look(0, 5), 2);
        BuildingClub two = Check.club("h20;g2", 500, 1, 1);
        two.week(1);
        two.week(1);
        two.seen(1);
        two.week(1);
        Check.due("the house that was seen", two.look(1, 5), 1);
        Check.due("not the other", two.look(0, 5), 0);
        Check.due("paid to the builder", two.club(1), 10);
    }

    private static void roundedDown() {
        Check.sentence("that through its STAGES, rounded down");
        int[] each = {23, 11, 7, 5, 4};
        for (int g = 2; g <= 5; g++) {
            BuildingClub club = Check.club("h23;s30;g" + g, 500, 1);
            club.week(1);
            seeAndPay(club, 0, 1);
            Check.due("23 through " + g, club.club(1), each[g - 1]);
            Check.due("held", club.look(0, 6), 23 - each[g - 1]);
        }
    }

    private static void asAtTheDraw() {
        Check.sentence("as it was at the DRAW");
        BuildingClub club = Check.club("h20;g4;s30", 500, 1);
        club.week(1);
        Check.vote(club, 1, "h999;g1;s30");
        seeAndPay(club, 0, 1);
        Check.due("stages as at the draw", club.look(0, 12), 4);
        Check.due("a stage as at the draw", club.look(0, 6), 15);
        seeAndPay(club, 0, 2);
        Check.due("the third, not a part of what is left", club.look(0, 6), 5);
        BuildingClub bids = Check.club("h21;g3;b1;s30", 500, 1);
        bids.bid(0, 10);
        bids.week(1);
        seeAndPay(bids, 0, 1);
        Check.due("through what is held, not h", bids.look(0, 6), 8);
    }

    private static void lastStage() {
        Check.sentence("of the last STAGE all that is HELD");
        BuildingClub club = Check.club("h23;s30;g5", 500, 1);
        club.week(1);
        seeAndPay(club, 0, 4);
        Check.due("four stages of 4", club.club(1), 16);
        Check.due("not done yet", club.count(4), 0);
        seeAndPay(club, 0, 1);
        Check.due("and 7", club.club(1), 23);
        Check.due("nothing is held", club.look(0, 6), 0);
        Check.due("stages paid", club.look(0, 5), 5);
        Check.due("done", club.count(4), 1);
        club.week(2);
        Check.due("no more to the builder", club.club(1), 23);
        BuildingClub one = Check.club("h23;s30;g1", 500, 1);
        one.week(1);
        seeAndPay(one, 0, 1);
        Check.due("the only stage", one.club(1), 23);
    }

    private static void leastHouse() {
        Check.sentence("the least that can be HELD, through the most STAGES");
        BuildingClub club = Check.club("h10;g5;b1", 500, 1);
        club.bid(0, 5000);
        club.week(1);
        Check.due("held", club.look(0, 6), 5);
        for (int paid = 1; paid <= 5; paid++) {
            seeAndPay(club, 0, 1);
            Check.due("a penny a stage", club.club(1), paid);
        }
        Check.due("done", club.count(4), 1);
    }

    private static void noSuchMemberFails() {
        Check.sentence("fail: likewise (false: no such ones)");
        BuildingClub club = Check.club(1, 1);
        for (int m : NO_MEMBERS) {
            Check.due("fail(" + m + ")", club.fail(m), false);
        }
        Check.due("without a house", club.fail(0), false);
        club.leave(1);
        Check.due("a leaver", club.fail(1), false);
        Check.due("calls that were done", club.count(6), 3);
        Check.due("of an empty club", new BuildingClub().fail(0), false);
    }

    private static void noStagePaid() {
        Check.sentence("THE BUILDER FAILS at a HOUSE of which a STAGE [..] was paid");
        BuildingClub club = Check.club("h20;g3", 500, 1);
        club.week(1);
        Check.due("none was paid", club.fail(0), false);
        club.seen(0);
        Check.due("seen, none was paid", club.fail(0), false);
        club.week(1);
        Check.due("one was paid", club.fail(0), true);
        Check.due("that one counts as not paid", club.fail(0), false);
    }

    private static void notTheLastOne() {
        Check.sentence("a STAGE, not the last one, was paid");
        BuildingClub club = Check.club("h20;g2", 500, 1);
        club.week(1);
        seeAndPay(club, 0, 2);
        Check.due("done", club.count(4), 1);
        Check.due("the last one was paid", club.fail(0), false);
        BuildingClub one = Check.club("h20;g1", 500, 1);
        one.week(1);
        seeAndPay(one, 0, 1);
        Check.due("the only one is the last", one.fail(0), false);
        BuildingClub five = Check.club("h20;g5", 500, 1);
        five.week(1);
        seeAndPay(five, 0, 4);
        Check.due("the last but one", five.fail(0), true);
        Check.due("three are left", five.look(0, 5), 3);
    }

    private static void stageCountsAsNotPaid() {
        Check.sentence("that STAGE counts as not paid (what was paid is lost)");
        BuildingClub club = Check.club("h20;g3;s31", 500, 1);
        club.week(1);
        seeAndPay(club, 0, 2);
        Check.due("fail", club.fail(0), true);
        Check.due("stages paid", club.look(0, 5), 1);
        Check.due("paid to the builder", club.club(1), 12);
        Check.due("fail again", club.fail(0), true);
        Check.due("stages paid", club.look(0, 5), 0);
        Check.due("held", club.look(0, 6), 20);
        Check.due("paid to the builder", club.club(1), 12);
        seeAndPay(club, 0, 3);
        Check.due("three stages more", club.club(1), 12 + 20);
        Check.due("done", club.count(4), 1);
        Check.duePennies("behind two failures", club);
    }

    private static void notSeen() {
        Check.sentence("the HOUSE as not SEEN");
        BuildingClub club = Check.club("h20;g3;s31", 500, 1);
        club.week(1);
        seeAndPay(club, 0, 1);
        club.seen(0);
        club.fail(0);
        club.week(1);
        Check.due("nothing is paid", club.look(0, 5), 0);
        BuildingClub again = Check.club("h20;g3;s31", 500, 1);
        again.week(1);
        seeAndPay(again, 0, 1);
        again.seen(0);
        again.fail(0);
        Check.due("it can be seen", again.seen(0), true);
        again.week(1);
        Check.due("and paid", again.look(0, 5), 1);
    }

    private static void cashNotBelowWhatItCost() {
        Check.sentence("if CASH is not below what it cost, that comes from CASH to what is HELD");
        BuildingClub club = poor();
        Check.vote(club, 3, "s50;h999;r0;f0");
        club.pay(0, 100);
        club.week(1);
        Check.due("arrears and dues", club.club(0), 100);
        Check.due("fail", club.fail(0), true);
        Check.due("cash is what it cost less", club.club(0), 50);
        Check.due("held", club.look(0, 6), 100);
        Check.due("lacks", club.look(0, 7), 0);
        BuildingClub just = Check.club("h100;g2;s75;r0;f0", 75, 1, 1);
        just.week(1);
        seeAndPay(just, 0, 1);
        Check.due("cash is just what it cost", just.club(0), 50);
        Check.due("fail", just.fail(0), true);
        Check.due("no cash is left", just.club(0), 0);
        Check.due("held", just.look(0, 6), 100);
        Check.due("lacks", just.look(0, 7), 0);
        Check.duePennies("behind a failure", just);
    }

    private static void cashBelowWhatItCost() {
        Check.sentence("else it LACKS");
        BuildingClub club = Check.club("h101;g2;s75;r0;f0", 75, 1, 1);
        club.week(1);
        seeAndPay(club, 0, 1);
        Check.due("cash is a penny below", club.club(0), 49);
        Check.due("fail", club.fail(0), true);
        Check.due("cash stays", club.club(0), 49);
        Check.due("held", club.look(0, 6), 51);
        Check.due("lacks", club.look(0, 7), 50);
        Check.due("stages paid", club.look(0, 5), 0);
        Check.duePennies("while it lacks", club);
    }

    private static void failsWhileItLacks() {
        Check.sentence("fail: false, too: it can't be, it LACKS something");
        BuildingClub club = Check.club("h99;g3;s50;r0;f0", 50, 1, 1);
        club.week(1);
        seeAndPay(club, 0, 2);
        Check.due("two stages", club.look(0, 5), 2);
        Check.due("fail", club.fail(0), true);
        Check.due("lacks", club.look(0, 7), 33);
        Check.due("a stage is paid still", club.look(0, 5), 1);
        Check.due("fail while it lacks", club.fail(0), false);
        club.pay(0, 1000);
        club.week(1);
        Check.due("lacks nothing", club.look(0, 7), 0);
        Check.due("fail then", club.fail(0), true);
    }

    private static void standsStill() {
        Check.sentence("the HOUSE stands still (nothing is SEEN or paid)");
        BuildingClub club = poor();
        club.fail(0);
        club.seen(0);
        club.week(3);
        Check.due("stages paid", club.look(0, 5), 0);
        Check.due("paid to the builder", club.club(1), 50);
        Check.due("held", club.look(0, 6), 50);
        Check.due("lacks", club.look(0, 7), 50);
    }

    private static void takenWhenCashIsNotBelow() {
        Check.sentence("till CASH is not below that behind (4) of a WEEK: it is taken then");
        BuildingClub below = Check.club("h100;g2;s50;r0;f0", 50, 1, 1);
        below.week(1);
        seeAndPay(below, 0, 1);
        below.fail(0);
        Check.vote(below, 3, "h999;s49;r0;f0");
        below.member(1);
        below.pay(2, 98);
        below.week(1);
        Check.due("a penny below", below.look(0, 7), 50);
        Check.due("cash stays", below.club(0), 49);
        below.week(1);
        Check.due("98 is not", below.look(0, 7), 0);
        Check.due("cash", below.club(0), 48);
        Check.due("held", below.look(0, 6), 100);
        BuildingClub just = Check.club("h100;g2;s50;r0;f0", 50, 1, 1);
        just.week(1);
        seeAndPay(just, 0, 1);
        just.fail(0);
        Check.vote(just, 3, "h999;s50;r0;f0");
        just.member(1);
        just.pay(2, 50);
        just.week(1);
        Check.due("just enough", just.look(0, 7), 0);
        Check.due("no cash is left", just.club(0), 0);
    }

    private static void takenBehindTheDraw() {
        Check.sentence("behind (4) of a WEEK");
        BuildingClub club = poor();
        club.fail(0);
        club.pay(1, 150);
        club.week(1);
        Check.due("the draw is first", club.look(1, 8), 3);
        Check.due("nothing is left for what it lacks", club.look(0, 7), 50);
        club.week(1);
        Check.due("the next week's cash", club.look(0, 7), 0);
        BuildingClub early = poor();
        early.fail(0);
        early.pay(1, 250);
        early.pay(0, 150);
        early.week(1);
        Check.due("a draw", early.look(1, 8), 3);
        Check.due("200, less 100, less 50", early.club(0), 50);
        Check.due("not seen in the week in which it is taken", early.look(0, 5), 0);
    }

    private static void takenByNumbers() {
        Check.sentence("it is taken then (by MEMBERS' numbers)");
        BuildingClub club = twoThatLack();
        club.pay(1, 59);
        Check.vote(club, 7, "h999;s29;r0;f0");
        club.week(1);
        Check.due("59 of cash: the lower number first", club.look(0, 7), 0);
        Check.due("not the other", club.look(2, 7), 30);
        Check.due("cash", club.club(0), 59 - 30);
        BuildingClub both = twoThatLack();
        both.pay(1, 60);
        both.week(1);
        Check.due("the lower number", both.look(0, 7), 0);
        Check.due("and the other, out of the rest", both.look(2, 7), 0);
        Check.due("no cash is left", both.club(0), 0);
    }

    private static void eachHouseForItself() {
        Check.sentence("the HOUSE stands still till CASH is not below that");
        BuildingClub club = Check.club("h120;g2;s40;r0;f0", 40, 1, 1, 1);
        club.week(1);
        Check.vote(club, 7, "h30;g3;s10;r0;f0");
        for (int m = 0; m < 3; m++) {
            club.pay(m, 10);
        }
        club.lot(1);
        club.week(1);
        club.seen(0);
        club.seen(2);
        Check.vote(club, 7, "h999;s10;r0;f0");
        club.week(1);
        club.fail(0);
        club.fail(2);
        Check.due("the lower number lacks", club.look(0, 7), 60);
        Check.due("the other lacks", club.look(2, 7), 10);
        club.pay(1, 20);
        club.week(1);
        Check.due("20 of cash are below 60", club.look(0, 7), 60);
        Check.due("and not below 10", club.look(2, 7), 0);
        Check.due("cash", club.club(0), 10);
        Check.due("the one stands still", club.seen(0), false);
        Check.due("the other does not", club.seen(2), true);
    }

    /** Houses of 0 and 2 lack 30 each, number 2's the longer one; number 1 has arrears of 30. */
    private static BuildingClub twoThatLack() {
        BuildingClub club = Check.club("h90;g3;s30;r0;f0", 60, 1, 1, 1);
        club.week(1);
        club.lot(1);
        club.week(1);
        club.seen(0);
        club.seen(2);
        club.week(1);
        club.fail(2);
        club.fail(0);
        Check.due("both lack", club.look(0, 7) + club.look(2, 7), 60);
        return club;
    }
}
