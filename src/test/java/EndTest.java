/** Promise 15: when all will have houses if all pay. */
public final class EndTest {
    public static void main(String[] args) {
        nobodyWithout();
        byHand();
        paymentsAndArrears();
        rulesThatComeNext();
        withinTwoThousandWeeks();
        leaversFirst();
        whatAHouseLacks();
        numbersAndBidsDoNotCount();
        changesNothing();
        Check.end();
    }

    private static void nobodyWithout() {
        BuildingClub club = new BuildingClub();
        club.week(7);
        Check.due("nobody is in", club.end(), 7);
        club.member(1);
        club.leave(0);
        Check.due("all have left", club.end(), 7);
        BuildingClub housed = Check.club("h20", 100, 1);
        housed.week(3);
        Check.due("all have one", housed.end(), 3);
    }

    private static void byHand() {
        BuildingClub club = Check.club(1);
        Check.due("600 by 20", club.end(), 30);
        club.week(2);
        Check.due("from week 2 on, arrears too", club.end(), 30);
        // Shares 2 and 3, by number: 100 a week to week 6, 120 a week and none over to week 11.
        Check.due("one of 2, one of 3", Check.club(2, 3).end(), 11);
        // Of 1 and 5 shares: 120 a week to week 5, then 130 or 170, as the first one has 1 or 5.
        Check.due("one of 1, one of 5", Check.club(1, 5).end(), 5 + 5);
        Check.due("one of 5, one of 1", Check.club(5, 1).end(), 5 + 4);
    }

    private static void paymentsAndArrears() {
        BuildingClub club = Check.club("s20;f500;h600", 0, 1);
        club.week(1);
        Check.due("arrears of 520 and 20 a week", club.end(), 1 + 4);
        club.pay(0, 5000);
        Check.due("credit does not come earlier", club.end(), 5);
    }

    private static void rulesThatComeNext() {
        BuildingClub club = Check.club(1);
        club.week(1);
        Check.vote(club, 1, "s75;f0");
        Check.due("25 and 75 a week", club.end(), 1 + 8);
        Check.vote(club, 1, "h25;s1;f0");
        Check.due("all arrears and 1", club.end(), 2);
    }

    private static void withinTwoThousandWeeks() {
        Check.due("5 by 1 to 9999", Check.club("s1;h9999", 0, 5).end(), 2000);
        BuildingClub club = Check.club("s1;h2001", 0, 1);
        Check.due("2001 weeks", club.end(), -1);
        Check.vote(club, 1, "s1;h2000");
        Check.due("2000 weeks", club.end(), 2000);
        club.pay(0, 3);
        club.week(3);
        Check.vote(club, 1, "s1;h2003");
        Check.due("2000 weeks from week 3 on", club.end(), 2003);
        Check.vote(club, 1, "s1;h2004");
        Check.due("2001 weeks from week 3 on", club.end(), -1);
    }

    private static void leaversFirst() {
        BuildingClub club = Check.club("s20;h100;q3;l100", 20, 1, 1);
        club.week(1);
        club.leave(1);
        Check.due("cash", club.club(0), 40);
        Check.due("before the leaver's week", club.end(), 4 + 1);
        BuildingClub late = Check.club("s20;h100;q4;l100", 20, 1, 1);
        late.week(1);
        late.leave(1);
        Check.due("the leaver's week comes later", late.end(), 4);
        BuildingClub poor = Check.club("s100;h100;q0;l100;f0", 100, 2, 1, 1);
        poor.pay(0, 100);
        poor.week(1);
        Check.vote(poor, 7, "s10;r0;h400;q0;l100;f0");
        poor.leave(1);
        poor.leave(2);
        poor.pay(0, 20);
        poor.week(1);
        Check.due("two leavers got 100 each", poor.club(6), 200);
        Check.due("all who are in have one", poor.end(), 2);
        poor.member(3);
        // 120 of 400 in hand, and 50 a week.
        Check.due("a member who comes later", poor.end(), 2 + 6);
    }

    private static void whatAHouseLacks() {
        BuildingClub club = Check.club("h100;g2;s50;r0;f0", 50, 1, 1);
        club.week(1);
        club.seen(0);
        club.week(1);
        Check.due("100 of arrears, 100 more", club.end(), 3);
        Check.vote(club, 3, "h400;g2;s50;r0;f0");
        Check.due("200 and 100 a week", club.end(), 5);
        club.fail(0);
        Check.due("it lacks", club.look(0, 7), 50);
        Check.due("what it lacks is taken", club.end(), 6);
        BuildingClub slow = Check.club("h1000;g2;s500;r0;f0", 500, 1, 1);
        slow.week(1);
        slow.seen(0);
        Check.vote(slow, 3, "h2000;g2;s5;r0;f0");
        slow.week(1);
        slow.fail(0);
        Check.due("it lacks", slow.look(0, 7), 500);
        Check.due("arrears of 5 each", slow.look(1, 3), 5);
        // 20, then 10 a week: 500 for the house that lacks it, and 2000 for the other.
        Check.due("what it lacks is taken long before", slow.end(), 2 + 1 + 248);
    }

    private static void numbersAndBidsDoNotCount() {
        BuildingClub bids = Check.club("s1;r7;h60;b1", 0, 1, 5);
        // Week 10: 60, number 0 has it; then 13 a week: five weeks.
        Check.due("bids are 0", bids.end(), 15);
        bids.bid(1, 30);
        Check.due("a bid does not count", bids.end(), 15);
        BuildingClub lots = Check.club("s6;r30;h72", 0, 1, 5);
        // Week 2: 72, number 0 has it; then 66 a week, or 186 if number 1 had it.
        Check.due("without a number", lots.end(), 4);
        lots.pay(0, 6);
        lots.pay(1, 30);
        lots.week(1);
        lots.lot(1);
        Check.due("a number does not count", lots.end(), 4);
    }

    private static void changesNothing() {
        BuildingClub club = Check.club("s30;h200;b1", 100, 1, 2);
        club.bid(1, 9);
        club.week(2);
        club.lot(3);
        long cash = club.club(0);
        int end = club.end();
        Check.due("end again", club.end(), end);
        Check.due("cash", club.club(0), cash);
        Check.due("the week", club.count(2), 2);
        Check.due("the bid", club.look(1, 9), 9);
        Check.due("calls", club.count(6), 8);
        Check.due("houses", club.count(3), 0);
    }
}
