/** Promises 11 and 13: weeks with their dues and fines, and what the club has. */
public final class WeekTest {
    public static void main(String[] args) {
        numbers();
        duesAndFines();
        moreForAHouse();
        finesByRulesOfTheWeek();
        whereEachPennyIs();
        Check.end();
    }

    private static void numbers() {
        BuildingClub club = new BuildingClub();
        int[] wrong = {0, -1, 101, Integer.MAX_VALUE, Integer.MIN_VALUE};
        for (int n : wrong) {
            Check.due("week(" + n + ")", club.week(n), -1);
        }
        Check.due("the week", club.count(2), 0);
        Check.due("nothing was done", club.count(6), 0);
        Check.due("week(100)", club.week(100), 100);
        Check.due("week(1)", club.week(1), 101);
        Check.due("the week", club.count(2), 101);
        Check.due("two calls were done", club.count(6), 2);
    }

    private static void duesAndFines() {
        BuildingClub club = Check.club(3, 1);
        club.pay(0, 59);
        club.pay(1, 20);
        club.week(1);
        Check.due("a penny short: credit", club.look(0, 2), 59);
        Check.due("a penny short: arrears", club.look(0, 3), 75);
        Check.due("a penny short: paid", club.look(0, 4), 0);
        Check.due("just enough: credit", club.look(1, 2), 0);
        Check.due("just enough: arrears", club.look(1, 3), 0);
        Check.due("just enough: paid", club.look(1, 4), 20);
        Check.due("cash", club.club(0), 20);
        Check.due("fines", club.club(2), 15);
        club.pay(0, 75);
        club.week(1);
        Check.due("arrears are owed too", club.look(0, 3), 150);
        Check.due("credit stays", club.look(0, 2), 134);
        Check.due("arrears of the other", club.look(1, 3), 25);
        Check.due("fines", club.club(2), 35);
        club.pay(0, 76);
        club.week(1);
        Check.due("all is taken", club.look(0, 2), 0);
        Check.due("arrears are 0 then", club.look(0, 3), 0);
        Check.due("arrears count as paid", club.look(0, 4), 210);
        Check.due("cash", club.club(0), 230);
        Check.due("arrears of the other", club.look(1, 3), 50);
        Check.due("fines told in all", club.club(2), 40);
        Check.due("paid in", club.club(7), 230);
    }

    private static void moreForAHouse() {
        BuildingClub club = Check.club("s10;r7;f3;h20", 100, 2, 1);
        club.week(1);
        Check.due("week of the draw", club.look(0, 8), 1);
        Check.due("no more is owed in the week of the draw", club.look(0, 2), 80);
        club.week(1);
        Check.due("r more a share with a house", club.look(0, 2), 46);
        Check.due("no more without one", club.look(1, 2), 80);
        Check.due("cash", club.club(0), 10 + 34 + 10 - 20);
        Check.due("the other's draw", club.look(1, 8), 2);
    }

    private static void finesByRulesOfTheWeek() {
        BuildingClub club = Check.club("s10;f0", 0, 2);
        club.week(2);
        Check.due("arrears without a fine", club.look(0, 3), 40);
        Check.due("no fines", club.club(2), 0);
        Check.vote(club, 1, "s1;f500");
        club.week(1);
        Check.due("arrears with the fine of the new rules", club.look(0, 3), 1042);
        Check.due("fines", club.club(2), 1000);
        Check.due("a long time", club.week(100), 103);
        Check.due("arrears grow", club.look(0, 3), 1042 + 100 * 1002);
    }

    private static void whereEachPennyIs() {
        BuildingClub club = Check.club("s40;h70;g2;b1;l50;q0", 500, 2, 1, 1);
        club.bid(0, 20);
        club.bid(2, 19);
        club.week(1);
        Check.due("cash", club.club(0), 90);
        Check.due("credits: the bid came back", club.club(3), 1500 - 160 + 20);
        Check.due("held", club.club(4), 50);
        club.seen(0);
        club.leave(1);
        Check.due("due to the leaver", club.club(5), 465 + 20);
        Check.due("the leaver's credit is cash", club.club(0), 90 + 465);
        Check.duePennies("behind a leaver", club);
        club.week(1);
        Check.due("paid to leavers", club.club(6), 485);
        Check.due("due to leavers", club.club(5), 0);
        Check.due("paid to the builder", club.club(1), 25);
        Check.due("held", club.club(4), 25 + 70 - 19);
        Check.due("cash", club.club(0), 555 + 100 + 40 - 485 - 70 + 19 - 12 - 6);
        Check.duePennies("behind a draw", club);
        Check.due("paid in", club.club(7), 1500);
    }
}
