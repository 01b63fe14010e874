/** Promises 6 and 7: the draw, by lot and by bids. */
public final class DrawTest {
    public static void main(String[] args) {
        wrongNumbers();
        lotByShares();
        lotForOneWeek();
        whoMayDraw();
        cashForAHouse();
        greatestBid();
        bidsAboveHalf();
        bidsAndLots();
        sharedBid();
        bidOfOthers();
        Check.end();
    }

    private static void wrongNumbers() {
        BuildingClub club = Check.club(1, 2);
        int[] wrong = {-1, 10001, Integer.MAX_VALUE, Integer.MIN_VALUE};
        for (int n : wrong) {
            Check.due("lot(" + n + ")", club.lot(n), false);
        }
        int[][] bids = {{0, -1}, {0, 5001}, {0, Integer.MAX_VALUE}, {0, Integer.MIN_VALUE}, {2, 1},
            {-1, 1}, {12, 1}, {Integer.MAX_VALUE, 1}, {Integer.MIN_VALUE, 1}};
        for (int[] one : bids) {
            Check.due("bid(" + one[0] + ", " + one[1] + ")", club.bid(one[0], one[1]), false);
        }
        Check.due("nothing was done", club.count(6), 2);
        Check.due("lot(0)", club.lot(0), true);
        Check.due("lot(10000)", club.lot(10000), true);
        Check.due("bid(1, 5000)", club.bid(1, 5000), true);
        Check.due("the bid", club.look(1, 9), 5000);
        Check.due("bid(1, 0)", club.bid(1, 0), true);
        Check.due("the bid", club.look(1, 9), 0);
        Check.due("four calls were done", club.count(6), 6);
        club.leave(1);
        Check.due("a leaver's bid", club.bid(1, 5), false);
    }

    private static int winner(BuildingClub club, int week) {
        for (int m = 0; m < club.count(0); m++) {
            if (club.look(m, 8) == week) {
                return m;
            }
        }
        return -1;
    }

    private static void lotByShares() {
        int[] want = {0, 0, 1, 2, 2, 2, 0, 0, 1, 2};
        for (int n = 0; n < want.length; n++) {
            BuildingClub club = Check.club("h10", 100, 2, 1, 3);
            club.lot(n);
            club.week(1);
            Check.due("lot " + n + " of 6 shares", winner(club, 1), want[n]);
            Check.due("held by lot", club.look(want[n], 6), 10);
        }
        BuildingClub club = Check.club("h10", 1000, 2, 1, 3);
        club.lot(10000);
        club.week(1);
        Check.due("lot 10000 of 6 shares", winner(club, 1), 2);
        club.lot(2);
        club.week(1);
        Check.due("lot 2 of the 3 shares left", winner(club, 2), 1);
        club.lot(9999);
        club.week(1);
        Check.due("lot of the last", winner(club, 3), 0);
        Check.due("houses", club.count(3), 3);
        club.week(1);
        Check.due("no more houses than members", club.count(3), 3);
    }

    private static void lotForOneWeek() {
        BuildingClub club = Check.club("h120", 500, 1, 1, 1);
        club.lot(2);
        club.week(2);
        Check.due("the number was for the week without a draw", winner(club, 2), 0);
        BuildingClub other = Check.club("h10", 500, 1, 1, 1);
        other.lot(1);
        other.lot(2);
        other.week(2);
        Check.due("the number told last", winner(other, 1), 2);
        Check.due("none was told for the next", winner(other, 2), 0);
    }

    private static void whoMayDraw() {
        BuildingClub club = Check.club("h10", 0, 1, 1, 1, 1);
        club.pay(1, 100);
        club.pay(2, 100);
        club.pay(3, 20);
        club.leave(1);
        club.lot(0);
        club.week(1);
        Check.due("not who has arrears, not who left", winner(club, 1), 2);
        club.week(1);
        Check.due("nobody may", winner(club, 2), -1);
        Check.due("houses", club.count(3), 1);
        club.pay(0, 45);
        club.week(1);
        Check.due("not who has paid a part of the arrears", winner(club, 3), -1);
        club.pay(0, 50);
        club.week(1);
        Check.due("who has paid all arrears may", winner(club, 4), 0);
    }

    private static void cashForAHouse() {
        BuildingClub club = Check.club("h41", 100, 1, 1);
        club.week(1);
        Check.due("cash is a penny below", club.count(3), 0);
        BuildingClub other = Check.club("h40", 100, 1, 1);
        other.week(1);
        Check.due("cash is just enough", other.count(3), 1);
        Check.due("cash is h less", other.club(0), 0);
        Check.due("stages of the house", other.look(0, 12), 3);
        Check.due("stages paid", other.look(0, 5), 0);
        Check.due("held", other.look(0, 6), 40);
        Check.due("lacks", other.look(0, 7), 0);
        BuildingClub rich = Check.club("s100;h10", 1000, 1, 1, 1);
        rich.week(1);
        Check.due("one draw a week", rich.count(3), 1);
    }

    private static void greatestBid() {
        BuildingClub club = Check.club("b1;h100;s50", 500, 1, 1, 1);
        club.bid(1, 30);
        club.bid(2, 30);
        club.bid(0, 29);
        club.lot(2);
        club.week(1);
        Check.due("of like ones the lower number", winner(club, 1), 1);
        Check.due("h less the bid is held", club.look(1, 6), 70);
        Check.due("its bid is 0 then", club.look(1, 9), 0);
        Check.due("the other's bid stays", club.look(2, 9), 30);
        club.week(1);
        Check.due("the next greatest", winner(club, 2), 2);
        club.bid(0, 0);
        club.bid(1, 50);
        club.week(1);
        Check.due("a bid of 0 is enough, one with a house has no part", winner(club, 3), 0);
        Check.due("all is held", club.look(0, 6), 100);
        Check.due("a bid of one with a house stays", club.look(1, 9), 50);
    }

    private static void bidsAboveHalf() {
        BuildingClub club = Check.club("b1;h101;s60", 500, 1, 1);
        club.bid(0, 50);
        club.bid(1, 5000);
        club.week(1);
        Check.due("above half counts as half", winner(club, 1), 0);
        Check.due("held", club.look(0, 6), 51);
        club.week(1);
        Check.due("the other", winner(club, 2), 1);
        Check.due("half is shared", club.look(1, 6), 51);
        Check.due("credit", club.look(1, 2), 500 - 120 + 25 + 25);
        Check.due("cash", club.club(0), 120 - 101 + 130 - 101);
        Check.duePennies("behind two bids", club);
    }

    private static void bidsAndLots() {
        BuildingClub club = Check.club("b0;h40", 500, 1, 1);
        club.bid(1, 20);
        club.bid(0, 5);
        club.week(1);
        Check.due("by lot bids do not count", winner(club, 1), 0);
        Check.due("by lot all h is held", club.look(0, 6), 40);
        Check.due("by lot nothing is shared", club.look(1, 2), 480);
        Check.due("its bid is 0 then", club.look(0, 9), 0);
        Check.due("the other's stays", club.look(1, 9), 20);
        Check.vote(club, 3, "b1;h40");
        club.week(1);
        Check.due("the bid told earlier counts", club.look(1, 6), 20);
    }

    private static void sharedBid() {
        BuildingClub club = Check.club("b1;h22;s5", 100, 2, 3, 1);
        club.bid(1, 11);
        club.leave(2);
        club.week(1);
        Check.due("11 by 2 of 5", club.look(0, 2), 90 + 4);
        Check.due("11 by 3 of 5", club.look(1, 2), 85 + 6);
        Check.due("a leaver has no part", club.look(2, 2), 0);
        Check.due("a penny left comes to cash", club.club(0), 100 + 25 - 22 + 1);
        Check.due("held", club.look(1, 6), 11);
        Check.duePennies("behind a shared bid", club);
    }

    private static void bidOfOthers() {
        BuildingClub club = Check.club("b1;h40;s20", 0, 1, 1, 1);
        club.bid(0, 20);
        club.bid(1, 1);
        club.pay(1, 100);
        club.pay(2, 100);
        club.week(1);
        Check.due("not who has arrears", winner(club, 1), 1);
        Check.due("who has arrears has a part of the bid", club.look(0, 2), 0);
        Check.due("a penny left", club.club(0), 1);
    }
}
