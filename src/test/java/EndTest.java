/** Promise 15: THE END, when all will have HOUSES if all pay. */
public final class EndTest {
    public static void main(String[] args) {
        allHaveOne();
        nobodyIsIn();
        weekOfTheLastDraw();
        creditEnough();
        arrearsArePaid();
        noNumberTold();
        bidsAreNothing();
        rulesThatComeNext();
        withinTwoThousandWeeks();
        noneBeyond();
        leaversAreStillPaid();
        aPennyForALeaver();
        leaverWhoWaits();
        leaverWhoWaitsToTheLast();
        whatAHouseLacksIsStillTaken();
        aPennyThatAHouseLacks();
        aPennyThatADrawLeftLacking();
        changesNothing();
        Check.end();
    }

    private static void allHaveOne() {
        Check.sentence("the present WEEK if all have one");
        BuildingClub club = Check.club("h20", 100, 1);
        Check.due("ahead of the draw", club.end(), 1);
        club.week(1);
        Check.due("in the week of the draw", club.end(), 1);
        club.week(2);
        Check.due("two weeks later", club.end(), 3);
        club.member(1);
        Check.due("a member who comes then", club.end(), 4);
        club.leave(1);
        Check.due("who has left needs none", club.end(), 3);
    }

    private static void nobodyIsIn() {
        Check.sentence("(or nobody is IN)");
        BuildingClub club = new BuildingClub();
        Check.due("a new club", club.end(), 0);
        club.week(7);
        Check.due("week 7", club.end(), 7);
        club.member(1);
        club.leave(0);
        Check.due("all have left", club.end(), 7);
        club.week(100);
        Check.due("week 107", club.end(), 107);
    }

    private static void weekOfTheLastDraw() {
        Check.sentence("the number of the WEEK in whose DRAW the last MEMBER who is IN would get a HOUSE");
        BuildingClub club = Check.club(1);
        Check.due("600 by 20", club.end(), 30);
        // Shares 2 and 3, by number: 100 a week to week 6, 120 a week and none over to week 11.
        Check.due("one of 2, one of 3", Check.club(2, 3).end(), 11);
        // Of 1 and 5 shares: 120 a week to week 5, then 130 or 170, as the first one has 1 or 5.
        Check.due("one of 1, one of 5", Check.club(1, 5).end(), 5 + 5);
        Check.due("one of 5, one of 1", Check.club(5, 1).end(), 5 + 4);
        BuildingClub rich = Check.club("s1000;h10", 0, 5, 5, 5, 5, 5, 5, 5, 5, 5, 5, 5, 5);
        Check.due("one draw a week, for twelve", rich.end(), 12);
    }

    private static void creditEnough() {
        Check.sentence("if from now on each had CREDIT enough");
        BuildingClub club = Check.club("s20;h600", 0, 1);
        Check.due("without credit", club.end(), 30);
        club.pay(0, 19);
        Check.due("with too little", club.end(), 30);
        club.pay(0, 5000);
        Check.due("with more than enough", club.end(), 30);
        club.week(10);
        Check.due("ten weeks were paid", club.end(), 30);
    }

    private static void arrearsArePaid() {
        Check.sentence("each had CREDIT enough: owes [..] and ARREARS");
        BuildingClub club = Check.club("s20;f500;h600", 0, 1);
        club.week(1);
        Check.due("arrears of 520 and 20 a week", club.end(), 1 + 4);
        BuildingClub just = Check.club("s20;f0;h600", 0, 1);
        just.week(29);
        Check.due("580 and 20", just.end(), 30);
        just.week(5);
        Check.due("680 and 20", just.end(), 35);
    }

    private static void noNumberTold() {
        Check.sentence("no number was told");
        BuildingClub club = Check.club("s6;r30;h72", 0, 1, 5);
        // Week 2: 72, number 0 has it; then 66 a week, or 186 if number 1 had it.
        Check.due("without a number", club.end(), 4);
        club.pay(0, 6);
        club.pay(1, 30);
        club.week(1);
        club.lot(1);
        Check.due("with one", club.end(), 4);
    }

    private static void bidsAreNothing() {
        Check.sentence("all BIDS were 0");
        BuildingClub club = Check.club("s1;r7;h60;b1", 0, 1, 5);
        // Week 10: 60, number 0 has it; then 13 a week: five weeks.
        Check.due("without a bid", club.end(), 15);
        club.bid(1, 30);
        Check.due("with one", club.end(), 15);
        Check.due("it stays", club.look(1, 9), 30);
    }

    private static void rulesThatComeNext() {
        Check.sentence("RULES stayed as those that will be in force next");
        BuildingClub club = Check.club(1);
        club.week(1);
        Check.vote(club, 1, "s75;f0");
        Check.due("25 and 75 a week", club.end(), 1 + 8);
        Check.vote(club, 1, "h25;s1;f0");
        Check.due("all arrears and 1", club.end(), 2);
    }

    private static void withinTwoThousandWeeks() {
        Check.sentence("within 2000 WEEKS from now");
        Check.due("5 by 1 to 9999", Check.club("s1;h9999", 0, 5).end(), 2000);
        BuildingClub club = Check.club("s1;h2000", 0, 1);
        Check.due("2000 weeks", club.end(), 2000);
        club.pay(0, 3);
        club.week(3);
        Check.vote(club, 1, "s1;h2003");
        Check.due("2000 weeks from week 3 on", club.end(), 2003);
    }

    private static void noneBeyond() {
        Check.sentence("none, if it is not within 2000 WEEKS from now");
        BuildingClub club = Check.club("s1;h2001", 0, 1);
        Check.due("2001 weeks", club.end(), -1);
        club.pay(0, 3);
        club.week(3);
        Check.due("1998 weeks", club.end(), 2001);
        Check.vote(club, 1, "s1;h2004");
        Check.due("2001 weeks from week 3 on", club.end(), -1);
        Check.vote(club, 1, "s1;h9999");
        Check.due("9996 weeks", club.end(), -1);
        BuildingClub second = Check.club("s1;r0;h2000", 0, 1, 1);
        Check.due("two houses of 2000 by 2", second.end(), 2000);
        Check.vote(second, 3, "s1;r0;h2001");
        Check.due("a penny too dear", second.end(), -1);
    }

    private static void leaversAreStillPaid() {
        Check.sentence("THE END, with leavers who wait");
        BuildingClub club = Check.club("s20;h100;q3;l100", 20, 1, 1);
        club.week(1);
        club.leave(1);
        Check.due("cash", club.club(0), 40);
        Check.due("the leaver's week comes first", club.end(), 4 + 1);
        BuildingClub late = Check.club("s20;h100;q4;l100", 20, 1, 1);
        late.week(1);
        late.leave(1);
        Check.due("the leaver's week comes later", late.end(), 4);
        BuildingClub poor = Check.club("s100;h400;r0;q0;l100;f0", 0, 2, 1, 1);
        poor.pay(0, 200);
        poor.pay(1, 100);
        poor.pay(2, 100);
        poor.week(1);
        Check.vote(poor, 7, "s10;r0;h400;f0");
        poor.leave(1);
        poor.leave(2);
        Check.due("all who are in have one", poor.end(), 1);
        poor.member(3);
        // 50 a week: 100 and 100 for the leavers to week 5, and 400 behind that.
        Check.due("a member who comes later", poor.end(), 1 + 12);
    }

    private static void aPennyForALeaver() {
        Check.sentence("THE END, with a penny that is due to a leaver");
        int[] price = {200, 201};
        int[] want = {20, 21};
        for (int i = 0; i < price.length; i++) {
            BuildingClub club = Check.club("s10;h" + price[i], 0, 1, 1);
            club.pay(1, 1);
            club.leave(1);
            Check.due("due", club.look(1, 10), 1);
            Check.due("a house of " + price[i] + " by 10, the penny is gone", club.end(), want[i]);
        }
    }

    private static void leaverWhoWaits() {
        Check.sentence("THE END, with a leaver who waits for CASH");
        BuildingClub club = Check.club("s100;r0;f0;l100;q0;h290", 100, 1, 1, 1);
        club.week(1);
        Check.vote(club, 7, "s10;r0;f0;h20");
        club.leave(1);
        Check.due("cash", club.club(0), 10);
        Check.due("due", club.look(1, 10), 100);
        Check.due("30 are below what is due, not below a house", club.end(), 2);
        Check.vote(club, 5, "s10;r0;f0;h200");
        // 20 a week: 110 in week 6, of which 100 go to the leaver, and 190 more.
        Check.due("what is due is paid ahead of a dear one", club.end(), 6 + 10);
    }

    private static void leaverWhoWaitsToTheLast() {
        Check.sentence("THE END, within 2000 WEEKS, in all of which a leaver waits for CASH");
        BuildingClub club = Check.club("s1000;r0;f0;h9999;l100;q0", 0, 1, 5);
        club.pay(0, 2000);
        club.pay(1, 10000);
        club.week(2);
        Check.vote(club, 3, "s1;r0;f0;h8001");
        club.leave(1);
        club.member(2);
        Check.due("cash", club.club(0), 2001);
        Check.due("due", club.look(1, 10), 10000);
        Check.due("2001 and 3 a week", club.end(), 2 + 2000);
        Check.vote(club, 5, "s1;r0;f0;h8002");
        Check.due("a penny too dear", club.end(), -1);
    }

    private static void whatAHouseLacksIsStillTaken() {
        Check.sentence("THE END, with a HOUSE that LACKS something");
        BuildingClub club = Check.club("h100;g2;s50;r0;f0", 50, 1, 1);
        club.week(1);
        club.seen(0);
        club.week(1);
        Check.due("100 of arrears, 100 more", club.end(), 3);
        Check.vote(club, 3, "h400;g2;s50;r0;f0");
        Check.due("200 and 100 a week", club.end(), 5);
        club.fail(0);
        Check.due("it lacks", club.look(0, 7), 50);
        Check.due("what it lacks is taken", club.end(), 6);
        BuildingClub slow = Check.club("h1000;g2;s500;r0;f0", 500, 1, 1);
        slow.week(1);
        slow.seen(0);
        Check.vote(slow, 3, "h2000;g2;s5;r0;f0");
        slow.week(1);
        slow.fail(0);
        Check.due("it lacks", slow.look(0, 7), 500);
        Check.due("arrears of 5 each", slow.look(1, 3), 5);
        // 20, then 10 a week: 500 for the house that lacks it, and 2000 for the other.
        Check.due("what it lacks is taken long before", slow.end(), 2 + 1 + 248);
    }

    private static void aPennyThatAHouseLacks() {
        Check.sentence("THE END, with a HOUSE that LACKS a penny");
        BuildingClub club = Check.club("h10;g5;b1;s5;r0;f0", 0, 1, 1);
        club.bid(0, 5);
        club.pay(0, 5);
        club.pay(1, 5);
        club.week(1);
        Check.due("held", club.look(0, 6), 5);
        Check.due("a penny of the bid is left", club.club(0), 1);
        club.seen(0);
        Check.vote(club, 3, "h21;s5;r0;f0;g5");
        club.week(1);
        club.fail(0);
        Check.due("a penny of cash made it up", club.look(0, 7), 0);
        club.seen(0);
        club.week(1);
        club.fail(0);
        Check.due("it lacks a penny", club.look(0, 7), 1);
        Check.due("arrears", club.look(0, 3) + club.look(1, 3), 20);
        Check.due("30 of the next week are enough for 21", club.end(), 4);
        Check.vote(club, 3, "h40;s5;r0;f0");
        Check.due("30 less a penny, 10 a week: not 40 in the week behind", club.end(), 6);
    }

    private static void aPennyThatADrawLeftLacking() {
        Check.sentence("THE END, with a HOUSE that LACKS a penny behind a DRAW that took all CASH");
        BuildingClub club = Check.club("h10;g5;b1;s5;r0;f0", 0, 1, 1, 3);
        club.bid(0, 5);
        club.pay(0, 5);
        club.pay(1, 5);
        club.week(1);
        club.seen(0);
        club.week(1);
        club.fail(0);
        Check.due("no cash", club.club(0), 0);
        Check.due("it lacks a penny", club.look(0, 7), 1);
        Check.due("arrears", club.look(0, 3) + club.look(1, 3) + club.look(2, 3), 40);
        Check.vote(club, 7, "h80;s8;r0;f0");
        // Week 3: 80, a house; week 4: 40 less the penny; week 5: 79.
        Check.due("a penny below in week 5", club.end(), 6);
        Check.vote(club, 7, "h79;s8;r0;f0");
        Check.due("the penny is taken behind the draw of a house of 79", club.end(), 5);
    }

    private static void changesNothing() {
        Check.sentence("THE END is asked, and nothing changes");
        BuildingClub club = Check.club("s30;h200;b1", 100, 1, 2);
        club.bid(1, 9);
        club.week(2);
        club.lot(3);
        String before = Standing.of(club);
        int end = club.end();
        Check.due("end again", club.end(), end);
        Check.due("how the club stands", Standing.of(club), before);
    }
}
