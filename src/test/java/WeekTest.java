/** Promises 11 and 13: WEEKS with their DUES and FINES, and where each penny of the club is. */
public final class WeekTest {
    public static void main(String[] args) {
        numberedFromOne();
        oneToAHundred();
        noSuchNumberOfWeeks();
        creditNotBelow();
        creditBelow();
        arrearsAreOwedToo();
        moreForAHouse();
        whoIsIn();
        fineOfTheWeek();
        noFine();
        finesToldInAll();
        orderOfTheSteps();
        whereEachPennyIs();
        Check.end();
    }

    private static void numberedFromOne() {
        Check.sentence("WEEKS are numbered from 1.");
        BuildingClub club = Check.club("h20", 100, 1);
        Check.due("before", club.count(2), 0);
        Check.due("the first", club.week(1), 1);
        Check.due("the week", club.count(2), 1);
        Check.due("the draw in it", club.look(0, 8), 1);
        Check.due("the second", club.week(1), 2);
    }

    private static void oneToAHundred() {
        Check.sentence("n WEEKS (1 to 100) go by: which WEEK it is then");
        BuildingClub club = Check.club(1);
        club.pay(0, 100000);
        Check.due("week(100)", club.week(100), 100);
        Check.due("a hundred dues, and ten more from the draw in week 30 on", club.look(0, 4), 2000 + 700);
        Check.due("week(1)", club.week(1), 101);
        Check.due("week(2)", club.week(2), 103);
        Check.due("calls that were done", club.count(6), 5);
        Check.due("a week of an empty club", new BuildingClub().week(1), 1);
    }

    private static void noSuchNumberOfWeeks() {
        Check.sentence("week: NONE: no such n");
        BuildingClub club = Check.club(1);
        club.pay(0, 50);
        int[] wrong = {0, -1, -100, 101, 200, Integer.MAX_VALUE, Integer.MIN_VALUE};
        for (int n : wrong) {
            Check.due("week(" + n + ")", club.week(n), -1);
        }
        Check.due("the week", club.count(2), 0);
        Check.due("nothing is taken", club.look(0, 2), 50);
        Check.due("calls that were done", club.count(6), 2);
    }

    private static void creditNotBelow() {
        Check.sentence("If CREDIT is not below that, it is taken, comes to CASH, and counts as PAID; ARREARS are 0.");
        BuildingClub club = Check.club(3, 1);
        club.pay(0, 60);
        club.pay(1, 21);
        club.week(1);
        Check.due("just enough: credit", club.look(0, 2), 0);
        Check.due("just enough: arrears", club.look(0, 3), 0);
        Check.due("just enough: paid", club.look(0, 4), 60);
        Check.due("a penny more: credit", club.look(1, 2), 1);
        Check.due("a penny more: paid", club.look(1, 4), 20);
        Check.due("cash", club.club(0), 80);
        Check.due("no fines", club.club(2), 0);
    }

    private static void creditBelow() {
        Check.sentence("Else nothing is taken: ARREARS are what was owed, and SHARES times f.");
        BuildingClub club = Check.club(3, 1);
        club.pay(0, 59);
        club.week(1);
        Check.due("a penny short: credit", club.look(0, 2), 59);
        Check.due("a penny short: arrears", club.look(0, 3), 75);
        Check.due("a penny short: paid", club.look(0, 4), 0);
        Check.due("without credit: arrears", club.look(1, 3), 25);
        Check.due("cash", club.club(0), 0);
        Check.due("credits", club.club(3), 59);
    }

    private static void arrearsAreOwedToo() {
        Check.sentence("owes SHARES times s (and r, with a HOUSE) and ARREARS");
        BuildingClub club = Check.club(3);
        club.week(1);
        club.pay(0, 134);
        club.week(1);
        Check.due("a penny below arrears and dues", club.look(0, 3), 75 + 60 + 15);
        Check.due("nothing is taken", club.look(0, 2), 134);
        club.pay(0, 76);
        club.week(1);
        Check.due("just enough for both", club.look(0, 2), 0);
        Check.due("arrears are 0", club.look(0, 3), 0);
        Check.due("arrears count as paid", club.look(0, 4), 210);
        Check.due("cash", club.club(0), 210);
    }

    private static void moreForAHouse() {
        Check.sentence("SHARES times s (and r, with a HOUSE)");
        BuildingClub club = Check.club("s10;r7;f3;h30", 0, 2, 1);
        club.pay(0, 20);
        club.pay(1, 100);
        club.week(1);
        Check.due("week of the draw", club.look(0, 8), 1);
        Check.due("no more is owed in the week of the draw", club.look(0, 4), 20);
        club.pay(0, 33);
        club.week(1);
        Check.due("a penny below 34", club.look(0, 3), 34 + 6);
        club.pay(0, 41);
        club.week(1);
        Check.due("just 40 and 34", club.look(0, 4), 20 + 74);
        Check.due("no more without a house", club.look(1, 4), 30);
        BuildingClub none = Check.club("s10;r0;h10", 100, 1);
        none.week(3);
        Check.due("r may be 0", none.look(0, 4), 30);
    }

    private static void whoIsIn() {
        Check.sentence("(1) DUES: each MEMBER who is IN");
        BuildingClub club = Check.club(1, 2);
        club.pay(1, 5);
        club.leave(0);
        club.week(2);
        Check.due("a leaver owes nothing", club.look(0, 3), 0);
        Check.due("nor is a fine told", club.club(2), 20);
        Check.due("who is in owes", club.look(1, 3), 100);
    }

    private static void fineOfTheWeek() {
        Check.sentence("In a WEEK, by RULES in force");
        BuildingClub club = Check.club("s10;f500", 0, 2);
        club.week(1);
        Check.due("arrears with a fine", club.look(0, 3), 20 + 1000);
        Check.vote(club, 1, "s1;f1");
        Check.due("a vote changes no arrears", club.look(0, 3), 1020);
        club.week(1);
        Check.due("by the new rules", club.look(0, 3), 1020 + 2 + 2);
        Check.due("a long time", club.week(100), 102);
        Check.due("arrears grow week by week", club.look(0, 3), 1024 + 100 * 4);
    }

    private static void noFine() {
        Check.sentence("f FINE, pence a SHARE (0 to 500; 5)");
        BuildingClub club = Check.club("s10;f0", 0, 2);
        club.week(2);
        Check.due("arrears without a fine", club.look(0, 3), 40);
        Check.due("no fines", club.club(2), 0);
        club.pay(0, 60);
        club.week(1);
        Check.due("arrears and dues", club.look(0, 4), 60);
    }

    private static void finesToldInAll() {
        Check.sentence("2 FINES told in all");
        BuildingClub club = Check.club(3, 1);
        club.pay(1, 20);
        club.week(1);
        Check.due("one fine", club.club(2), 15);
        club.week(1);
        Check.due("three fines", club.club(2), 15 + 15 + 5);
        club.pay(0, 1000);
        club.pay(1, 1000);
        club.week(1);
        Check.due("paid fines were told all the same", club.club(2), 35);
        club.leave(0);
        Check.due("a leaver's too", club.club(2), 35);
    }

    /** Each step finds in CASH what the one ahead of it left there. */
    private static void orderOfTheSteps() {
        Check.sentence("(1) DUES (2) LEAVERS (3) STAGES (4) A DRAW");
        BuildingClub club = Check.club("s50;h100;q0;l100;r0", 50, 1, 1, 1);
        club.pay(0, 50);
        club.pay(1, 50);
        club.week(1);
        Check.due("150 of dues, a house", club.club(0), 50);
        Check.due("drawn in the week of its dues", club.look(0, 8), 1);
        Check.due("due to the leaver", club.leave(2) ? club.look(2, 10) : -1, 50);
        Check.vote(club, 3, "s50;h101;r0");
        club.week(1);
        Check.due("the leaver is ahead of the draw", club.club(6), 50);
        Check.due("150, less 50: no draw", club.count(3), 1);
        Check.due("cash", club.club(0), 100);
        BuildingClub stages = Check.club("s50;h100;g1;r0", 500, 1, 1);
        stages.week(1);
        Check.due("a house", stages.look(0, 8), 1);
        Check.due("seen", stages.seen(0), true);
        stages.week(1);
        Check.due("its stage was paid", stages.club(1), 100);
        Check.due("the draw is behind: nothing is paid of the next", stages.look(1, 5), 0);
        Check.due("which was drawn", stages.look(1, 8), 2);
    }

    private static void whereEachPennyIs() {
        Check.sentence("0 CASH, 1 paid to the BUILDER, 3 CREDITS together, 4 HELD together, 5 due to leavers, 6 paid to leavers, 7 paid in by all MEMBERS");
        BuildingClub club = Check.club("s40;h70;g2;b1;l50;q0", 500, 2, 1, 1);
        club.bid(0, 20);
        club.bid(2, 19);
        club.week(1);
        Check.due("cash", club.club(0), 90);
        Check.due("credits: the bid came back", club.club(3), 1500 - 160 + 20);
        Check.due("held", club.club(4), 50);
        club.seen(0);
        club.leave(1);
        Check.due("due to the leaver", club.club(5), 465 + 20);
        Check.due("the leaver's credit is cash", club.club(0), 90 + 465);
        Check.duePennies("behind a leaver", club);
        club.week(1);
        Check.due("paid to leavers", club.club(6), 485);
        Check.due("due to leavers", club.club(5), 0);
        Check.due("paid to the builder", club.club(1), 25);
        Check.due("held", club.club(4), 25 + 70 - 19);
        Check.due("cash", club.club(0), 555 + 100 + 40 - 485 - 70 + 19 - 12 - 6);
        Check.duePennies("behind a draw", club);
        Check.due("paid in", club.club(7), 1500);
    }
}
