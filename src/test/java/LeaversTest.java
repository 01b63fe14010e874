/** Promise 9: leavers, what is due to them and when they get it. */
public final class LeaversTest {
    public static void main(String[] args) {
        refused();
        whatIsDue();
        rulesAheadOfWeekOne();
        rulesOfTheLastWeek();
        whenItIsPaid();
        oneMakesAllBehindWait();
        notYetDueDoesNotBlock();
        Check.end();
    }

    private static void refused() {
        BuildingClub club = Check.club("h20", 500, 1, 1);
        club.week(1);
        int[] members = {0, 2, -1, 12, Integer.MAX_VALUE, Integer.MIN_VALUE};
        for (int m : members) {
            Check.due("leave(" + m + ")", club.leave(m), false);
        }
        Check.due("leave(1)", club.leave(1), true);
        int done = club.count(6);
        Check.due("leave again", club.leave(1), false);
        Check.due("no more was done", club.count(6), done);
    }

    private static void whatIsDue() {
        BuildingClub club = Check.club("s33;l33;q2", 0, 1, 1);
        club.pay(0, 50);
        club.bid(0, 77);
        club.week(2);
        Check.due("arrears", club.look(0, 3), 38);
        Check.due("leave", club.leave(0), true);
        Check.due("33 hundredths of 33, and 17", club.look(0, 10), 10 + 17);
        Check.due("not in", club.look(0, 1), 0);
        Check.due("credit", club.look(0, 2), 0);
        Check.due("arrears are 0", club.look(0, 3), 0);
        Check.due("paid stays", club.look(0, 4), 33);
        Check.due("the bid is 0", club.look(0, 9), 0);
        Check.due("got", club.look(0, 11), 0);
        Check.due("shares stay", club.look(0, 0), 1);
        Check.due("credit came to cash", club.club(0), 50);
        Check.due("due", club.club(5), 27);
        Check.due("members in", club.count(1), 1);
        club.week(1);
        Check.due("a leaver owes nothing", club.look(0, 3), 0);
        Check.due("the week has not come", club.club(6), 0);
        club.week(1);
        Check.due("the week has come", club.look(0, 11), 27);
        Check.due("nothing is due then", club.look(0, 10), 0);
        Check.due("cash", club.club(0), 23);
        Check.due("to leavers", club.club(6), 27);
        Check.due("due to leavers", club.club(5), 0);
    }

    private static void rulesAheadOfWeekOne() {
        BuildingClub club = Check.club("l0;q0", 100, 1, 1);
        Check.due("leave ahead of week 1", club.leave(0), true);
        Check.due("all credit", club.look(0, 10), 100);
        club.week(3);
        Check.due("rules as at first: 4 weeks", club.look(0, 11), 0);
        club.week(1);
        Check.due("the fourth week", club.look(0, 11), 100);
    }

    private static void rulesOfTheLastWeek() {
        BuildingClub club = Check.club("l50;q1", 100, 1, 1, 1);
        club.week(1);
        Check.vote(club, 7, "l100;q9");
        club.leave(0);
        Check.due("not by rules that come next", club.look(0, 10), 90);
        club.week(1);
        Check.due("nor the weeks of those", club.look(0, 11), 90);
        club.leave(1);
        Check.due("all of it", club.look(1, 10), 100);
        Check.vote(club, 4, "l100;q0");
        club.week(8);
        Check.due("its week stays", club.look(1, 11), 0);
        club.week(1);
        Check.due("its week", club.look(1, 11), 100);
    }

    private static void whenItIsPaid() {
        BuildingClub club = Check.club("q0;l100", 100, 1, 1);
        club.week(1);
        club.leave(0);
        Check.due("not at once", club.look(0, 11), 0);
        club.week(1);
        Check.due("in the next week", club.look(0, 11), 100);
        BuildingClub late = Check.club("q99;l100", 100, 1, 1);
        late.week(1);
        late.leave(0);
        late.week(98);
        Check.due("98 weeks", late.look(0, 11), 0);
        late.week(1);
        Check.due("99 weeks", late.look(0, 11), 100);
    }

    private static void oneMakesAllBehindWait() {
        BuildingClub club = Check.club("s40;r0;h100;q1;l100;f0", 100, 1, 1, 1, 1);
        club.week(1);
        Check.due("a house was drawn", club.look(0, 8), 1);
        Check.due("cash", club.club(0), 60);
        Check.vote(club, 15, "s1;r0;f0;h160;q1;l100");
        club.leave(1);
        club.leave(3);
        Check.due("cash with the credits", club.club(0), 180);
        club.week(1);
        Check.due("the first gets it", club.look(1, 11), 100);
        Check.due("the second waits", club.look(3, 11), 0);
        Check.due("cash", club.club(0), 82);
        club.leave(2);
        Check.due("cash is enough for both now", club.club(0), 82 + 59);
        Check.due("due", club.club(5), 200);
        club.week(1);
        Check.due("cash is below 200, not below 100", club.look(3, 11), 100);
        Check.due("the last waits", club.look(2, 11), 0);
        club.pay(0, 57);
        club.week(57);
        Check.due("a penny below", club.look(2, 11), 0);
        club.week(1);
        Check.due("got at last", club.look(2, 11), 100);
        Check.due("to leavers in all", club.club(6), 300);
        Check.duePennies("behind the leavers", club);
    }

    private static void notYetDueDoesNotBlock() {
        BuildingClub club = Check.club("s10;h9999;q9;l100", 0, 1, 1, 1);
        club.pay(0, 500);
        club.pay(1, 10);
        club.pay(2, 500);
        club.week(1);
        Check.vote(club, 7, "s10;h500;q0;l100");
        club.leave(0);
        club.week(1);
        Check.due("the cash went into a house", club.club(0), 530 - 500);
        club.leave(1);
        Check.due("due to the first", club.look(0, 10), 500);
        club.week(1);
        Check.due("who left later, and is due sooner", club.look(1, 11), 10);
        Check.due("cash", club.club(0), 30 + 20 - 10);
        club.week(7);
        Check.due("the first waits for cash", club.look(0, 11), 0);
    }
}
