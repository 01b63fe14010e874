/** The DRAW, by LOT and by BIDS: promises 6 and 7, and step (4) of a WEEK. */
public final class DrawTest {
    public static void main(String[] args) {
        numbersOfALot();
        noSuchNumber();
        numberForOneWeek();
        numberToldLast();
        noNumberTold();
        moduloAllShares();
        shareByShare();
        onlyThoseWhoMay();
        bidsThatCanBe();
        noSuchBid();
        noSuchBidder();
        cashNotBelow();
        nobodyMay();
        noArrears();
        greatestBid();
        aboveHalf();
        belowHalf();
        lowerNumber();
        bidOfNothing();
        heldLessTheBid();
        sharedRoundedDown();
        sharedAmongThoseIn();
        pennyLeft();
        itsBidIsNothingThen();
        byLotNoBidCounts();
        aHouseFromThenOn();
        Check.end();
    }

    private static int winner(BuildingClub club, int week) {
        for (int m = 0; m < club.count(0); m++) {
            if (club.look(m, 8) == week) {
                return m;
            }
        }
        return -1;
    }

    private static int winnerOfLot(int n, int... shares) {
        BuildingClub club = Check.club("h10", 100, shares);
        club.lot(n);
        club.week(1);
        return winner(club, 1);
    }

    private static void numbersOfALot() {
        Check.sentence("A number (0 to 10000) for the next WEEK's LOT");
        BuildingClub club = Check.club(1);
        Check.due("the least", club.lot(0), true);
        Check.due("the most", club.lot(10000), true);
        Check.due("calls that were done", club.count(6), 3);
        Check.due("in an empty club", new BuildingClub().lot(7), true);
    }

    private static void noSuchNumber() {
        Check.sentence("lot: likewise (false: no such ones)");
        BuildingClub club = Check.club("h10", 100, 1, 1, 1);
        club.lot(2);
        int[] wrong = {-1, -2, 10001, 20000, Integer.MAX_VALUE, Integer.MIN_VALUE};
        for (int n : wrong) {
            Check.due("lot(" + n + ")", club.lot(n), false);
        }
        Check.due("calls that were done", club.count(6), 8);
        club.week(1);
        Check.due("the number told before", winner(club, 1), 2);
    }

    private static void numberForOneWeek() {
        Check.sentence("the number told for this WEEK");
        BuildingClub club = Check.club("h120", 500, 1, 1, 1);
        club.lot(2);
        club.week(2);
        Check.due("it was for the week without a draw", winner(club, 2), 0);
        BuildingClub two = Check.club("h10", 500, 1, 1, 1);
        two.lot(2);
        two.week(2);
        Check.due("the first of two weeks", winner(two, 1), 2);
        Check.due("the second", winner(two, 2), 0);
        BuildingClub each = Check.club("h10", 500, 1, 1, 1);
        each.lot(1);
        each.week(1);
        each.lot(1);
        each.week(1);
        Check.due("the number of the second week", winner(each, 2), 2);
    }

    private static void numberToldLast() {
        Check.sentence("a number for the next WEEK's LOT, told twice");
        BuildingClub club = Check.club("h10", 500, 1, 1, 1);
        club.lot(1);
        club.lot(2);
        club.week(1);
        Check.due("the number told last", winner(club, 1), 2);
        club.lot(1);
        club.lot(0);
        club.week(1);
        Check.due("0 told last", winner(club, 2), 0);
    }

    private static void noNumberTold() {
        Check.sentence("(0 if none was)");
        BuildingClub club = Check.club("h10", 500, 1, 1, 1);
        club.week(3);
        Check.due("first", winner(club, 1), 0);
        Check.due("second", winner(club, 2), 1);
        Check.due("third", winner(club, 3), 2);
    }

    private static void moduloAllShares() {
        Check.sentence("modulo all SHARES of those who may");
        Check.due("5 of 6", winnerOfLot(5, 2, 1, 3), 2);
        Check.due("6 of 6", winnerOfLot(6, 2, 1, 3), 0);
        Check.due("7 of 6", winnerOfLot(7, 2, 1, 3), 0);
        Check.due("8 of 6", winnerOfLot(8, 2, 1, 3), 1);
        Check.due("10000 of 6", winnerOfLot(10000, 2, 1, 3), 2);
        Check.due("9999 of 6", winnerOfLot(9999, 2, 1, 3), 2);
        Check.due("9998 of 6", winnerOfLot(9998, 2, 1, 3), 1);
        Check.due("10000 of 1", winnerOfLot(10000, 1), 0);
        Check.due("59 of 60", winnerOfLot(59, 5, 5, 5, 5, 5, 5, 5, 5, 5, 5, 5, 5), 11);
        Check.due("60 of 60", winnerOfLot(60, 5, 5, 5, 5, 5, 5, 5, 5, 5, 5, 5, 5), 0);
    }

    private static void shareByShare() {
        Check.sentence("they have numbers from 0 on by MEMBERS, SHARE by SHARE: who has it");
        int[] want = {0, 0, 1, 2, 2, 2};
        for (int n = 0; n < want.length; n++) {
            Check.due("lot " + n + " of 6 shares", winnerOfLot(n, 2, 1, 3), want[n]);
        }
    }

    private static void onlyThoseWhoMay() {
        Check.sentence("all SHARES of those who may: who is IN, has none, and no ARREARS");
        BuildingClub club = Check.club("h10", 0, 3, 1, 2, 1, 2);
        club.pay(1, 100);
        club.pay(2, 100);
        club.pay(3, 500);
        club.pay(4, 100);
        club.leave(2);
        club.lot(3);
        club.week(1);
        Check.due("of 1, 3 and 4 the last one's second share is 3", winner(club, 1), 4);
        club.lot(3);
        club.week(1);
        Check.due("of 1 and 3: 3 modulo 2", winner(club, 2), 3);
        club.lot(10000);
        club.week(1);
        Check.due("of 1 alone", winner(club, 3), 1);
    }

    private static void bidsThatCanBe() {
        Check.sentence("BID (0 to 5000, 0 at first");
        BuildingClub club = Check.club(1, 1);
        Check.due("at first", club.look(1, 9), 0);
        Check.due("the most", club.bid(1, 5000), true);
        Check.due("the bid", club.look(1, 9), 5000);
        Check.due("the other's", club.look(0, 9), 0);
        Check.due("the least", club.bid(1, 0), true);
        Check.due("the bid", club.look(1, 9), 0);
        Check.due("a bid without credit", club.bid(0, 1), true);
        Check.due("calls that were done", club.count(6), 5);
    }

    private static void noSuchBid() {
        Check.sentence("bid: likewise (false: no such ones)");
        BuildingClub club = Check.club(1);
        club.bid(0, 7);
        int[] wrong = {-1, 5001, 100000, Integer.MAX_VALUE, Integer.MIN_VALUE};
        for (int pence : wrong) {
            Check.due("bid(0, " + pence + ")", club.bid(0, pence), false);
        }
        Check.due("the bid stays", club.look(0, 9), 7);
        Check.due("calls that were done", club.count(6), 2);
    }

    private static void noSuchBidder() {
        Check.sentence("A BID of a MEMBER who is IN");
        BuildingClub club = Check.club(1, 1);
        int[] wrong = {2, 11, 12, 32, -1, Integer.MAX_VALUE, Integer.MIN_VALUE};
        for (int m : wrong) {
            Check.due("bid(" + m + ", 1)", club.bid(m, 1), false);
        }
        club.leave(1);
        Check.due("a leaver's", club.bid(1, 5), false);
        Check.due("none", club.look(1, 9), 0);
        BuildingClub housed = Check.club("h20", 500, 1);
        housed.week(1);
        Check.due("one with a house is in", housed.bid(0, 5), true);
        housed.week(1);
        Check.due("its bid stays", housed.look(0, 9), 5);
    }

    private static void cashNotBelow() {
        Check.sentence("A DRAW, if CASH is not below h");
        BuildingClub below = Check.club("h41", 100, 1, 1);
        below.week(1);
        Check.due("a penny below", below.count(3), 0);
        Check.due("cash stays", below.club(0), 40);
        BuildingClub just = Check.club("h40", 100, 1, 1);
        just.week(1);
        Check.due("just enough", just.count(3), 1);
        Check.due("cash is h less", just.club(0), 0);
        BuildingClub more = Check.club("s100;h10", 1000, 1, 1, 1);
        more.week(1);
        Check.due("one draw a week, with cash for many", more.count(3), 1);
        Check.due("cash", more.club(0), 290);
        more.week(9);
        Check.due("no more houses than members", more.count(3), 3);
        BuildingClub bids = Check.club("h41;b1", 100, 1, 1);
        bids.bid(0, 20);
        bids.week(1);
        Check.due("a bid does not make up for a penny", bids.count(3), 0);
    }

    private static void nobodyMay() {
        Check.sentence("and a MEMBER may have a HOUSE");
        BuildingClub club = Check.club("h10", 0, 1, 1);
        club.pay(0, 20);
        club.lot(1);
        club.week(1);
        Check.due("the one without arrears", winner(club, 1), 0);
        club.pay(0, 30);
        club.lot(1);
        club.week(1);
        Check.due("nobody", winner(club, 2), -1);
        Check.due("cash stays", club.club(0), 40);
        BuildingClub bids = Check.club("h10;b1", 0, 1, 1);
        bids.pay(0, 20);
        bids.bid(1, 5);
        bids.week(1);
        bids.pay(0, 30);
        bids.week(1);
        Check.due("nobody, by bids", winner(bids, 2), -1);
        Check.due("cash stays", bids.club(0), 40);
        BuildingClub full = Check.club("h10;f0", 20, 1, 1, 1, 1, 1, 1, 1, 1, 1, 1, 1, 1);
        full.week(1);
        full.lot(11);
        full.week(1);
        Check.due("nobody of twelve, all with arrears", full.count(3), 1);
        Check.due("cash stays", full.club(0), 230);
        Check.vote(full, 0xfff, "h10;b1");
        full.week(1);
        Check.due("nor by bids", full.count(3), 1);
        BuildingClub left = Check.club("h10", 100, 1);
        left.leave(0);
        left.week(1);
        Check.due("all have left", left.count(3), 0);
        Check.due("cash of the leaver", left.club(0), 100);
    }

    private static void noArrears() {
        Check.sentence("who is IN, has none, and no ARREARS");
        BuildingClub club = Check.club("h10", 0, 1, 1);
        club.pay(1, 100);
        club.week(1);
        Check.due("not who has arrears", winner(club, 1), 1);
        club.pay(0, 44);
        club.week(1);
        Check.due("not who is a penny short of them", winner(club, 2), -1);
        club.pay(0, 26);
        club.week(1);
        Check.due("who has paid them may", winner(club, 3), 0);
    }

    private static void greatestBid() {
        Check.sentence("b 1: the greatest BID");
        BuildingClub club = Check.club("b1;h100;s50", 5000, 1, 5, 1);
        club.bid(0, 29);
        club.bid(1, 1);
        club.bid(2, 30);
        club.lot(1);
        club.week(1);
        Check.due("by a penny, neither by shares nor by lot", winner(club, 1), 2);
        club.week(1);
        Check.due("the next greatest", winner(club, 2), 0);
        club.bid(0, 50);
        club.week(1);
        Check.due("one with a house has no part", winner(club, 3), 1);
        Check.due("and its bid stays", club.look(0, 9), 50);
        BuildingClub full = Check.club("h40;b1", 100, 1, 1, 1, 1, 1, 1, 1, 1, 1, 1, 1, 1);
        full.bid(11, 3);
        full.bid(10, 2);
        full.week(1);
        Check.due("the last of twelve", winner(full, 1), 11);
        BuildingClub others = Check.club("b1;h40;s20", 0, 1, 1, 1, 1);
        others.bid(0, 20);
        others.bid(3, 20);
        others.bid(1, 1);
        others.pay(1, 100);
        others.pay(2, 100);
        others.pay(3, 100);
        others.leave(3);
        others.week(1);
        Check.due("not who has arrears, not who left", winner(others, 1), 1);
    }

    private static void aboveHalf() {
        Check.sentence("what is above h / 2 counts as h / 2, rounded down");
        BuildingClub club = Check.club("b1;h101;s60", 500, 1, 1);
        club.bid(0, 50);
        club.bid(1, 5000);
        club.week(1);
        Check.due("50 and 5000 are like ones", winner(club, 1), 0);
        Check.due("held", club.look(0, 6), 51);
        club.week(1);
        Check.due("the other", winner(club, 2), 1);
        Check.due("50 of 5000 counts", club.look(1, 6), 51);
        Check.due("50 is shared", club.look(1, 2), 500 - 120 + 25 + 25);
        Check.due("cash", club.club(0), 120 - 101 + 130 - 101);
        BuildingClub penny = Check.club("b1;h101;s60", 500, 1, 1);
        penny.bid(0, 49);
        penny.bid(1, 51);
        penny.week(1);
        Check.due("49 is below 50", winner(penny, 1), 1);
        Check.due("51 counts as 50", penny.look(1, 6), 51);
        BuildingClub most = Check.club("b1;h9999;s1000", 100000, 5, 5);
        most.bid(1, 5000);
        most.bid(0, 4998);
        most.week(1);
        Check.due("5000 of 9999 counts as 4999", most.look(1, 6), 5000);
        BuildingClub least = Check.club("b1;h10", 100, 1, 1);
        least.bid(1, 5);
        least.week(1);
        Check.due("5 of 10", least.look(1, 6), 5);
    }

    private static void belowHalf() {
        Check.sentence("what is not above h / 2 counts as it is");
        BuildingClub club = Check.club("b1;h100;s60", 500, 1, 1, 1);
        club.bid(0, 48);
        club.bid(1, 49);
        club.bid(2, 50);
        club.week(1);
        Check.due("50 is above 49", winner(club, 1), 2);
        Check.due("held", club.look(2, 6), 50);
        club.week(1);
        Check.due("49 is above 48", winner(club, 2), 1);
        Check.due("held", club.look(1, 6), 51);
    }

    private static void lowerNumber() {
        Check.sentence("of like ones the lower number");
        BuildingClub club = Check.club("b1;h100;s50", 500, 1, 1, 1);
        club.bid(0, 9);
        club.bid(2, 30);
        club.bid(1, 30);
        club.lot(2);
        club.week(1);
        Check.due("1 and 2", winner(club, 1), 1);
    }

    private static void bidOfNothing() {
        Check.sentence("the greatest BID, if all are 0");
        BuildingClub club = Check.club("b1;h60", 500, 1, 1, 1);
        club.lot(1);
        club.week(1);
        Check.due("the lowest number", winner(club, 1), 0);
        Check.due("all is held", club.look(0, 6), 60);
        Check.due("nothing is shared", club.look(1, 2), 480);
        Check.due("cash", club.club(0), 0);
    }

    private static void heldLessTheBid() {
        Check.sentence("CASH is h less; h less the BID is HELD (by b 0 all h)");
        BuildingClub bids = Check.club("b1;h70;s40", 500, 1, 1);
        bids.bid(1, 10);
        bids.week(1);
        Check.due("h less the bid", bids.look(1, 6), 60);
        Check.due("cash is h less", bids.club(0), 80 - 70);
        Check.due("credit of the other", bids.look(0, 2), 460 + 5);
        Check.due("credit of who has it", bids.look(1, 2), 460 + 5);
        BuildingClub lots = Check.club("b0;h70;s40", 500, 1, 1);
        lots.bid(0, 10);
        lots.week(1);
        Check.due("by lot all h", lots.look(0, 6), 70);
        Check.due("credit", lots.look(0, 2), 460);
    }

    private static void sharedRoundedDown() {
        Check.sentence("the BID is shared among all who are IN by SHARES, rounded down, as CREDIT");
        BuildingClub club = Check.club("b1;h22;s5", 100, 2, 3);
        club.bid(1, 11);
        club.week(1);
        Check.due("11 by 2 of 5", club.look(0, 2), 90 + 4);
        Check.due("11 by 3 of 5", club.look(1, 2), 85 + 6);
        Check.due("a penny left", club.club(0), 25 - 22 + 1);
        Check.duePennies("behind a shared bid", club);
    }

    private static void sharedAmongThoseIn() {
        Check.sentence("shared among all who are IN");
        BuildingClub club = Check.club("b1;h40;s20", 0, 1, 1, 1, 1);
        for (int m = 1; m < 4; m++) {
            club.pay(m, 100);
        }
        club.leave(3);
        club.bid(1, 10);
        club.week(1);
        Check.due("who has arrears has a part", club.look(0, 2), 3);
        Check.due("who has the house has a part", club.look(1, 2), 80 + 3);
        Check.due("another", club.look(2, 2), 80 + 3);
        Check.due("a leaver has none", club.look(3, 2), 0);
        Check.due("nor is more due to it", club.look(3, 10), 100);
        club.pay(0, 100);
        club.bid(2, 9);
        club.week(1);
        Check.due("the next house", winner(club, 2), 2);
        Check.due("who had a house has a part", club.look(1, 2), 83 - 30 + 3);
    }

    private static void pennyLeft() {
        Check.sentence("pence left come to CASH");
        BuildingClub club = Check.club("b1;h60", 100, 1, 1, 1);
        club.bid(0, 2);
        club.week(1);
        Check.due("2 by 3: nobody has a part", club.look(1, 2), 80);
        Check.due("both pence left", club.club(0), 2);
        Check.due("held", club.look(0, 6), 58);
        BuildingClub even = Check.club("b1;h60", 100, 1, 1, 1);
        even.bid(0, 3);
        even.week(1);
        Check.due("3 by 3: a penny each", even.look(1, 2), 81);
        Check.due("nothing left", even.club(0), 0);
        BuildingClub alone = Check.club("b1;h20;s21", 100, 1);
        alone.bid(0, 7);
        alone.week(1);
        Check.due("all of it for the only one", alone.look(0, 2), 79 + 7);
        Check.due("cash", alone.club(0), 1);
    }

    private static void itsBidIsNothingThen() {
        Check.sentence("Its BID is 0 then.");
        BuildingClub club = Check.club("b1;h40", 500, 1, 1);
        club.bid(1, 20);
        club.bid(0, 19);
        club.week(1);
        Check.due("of who has the house", club.look(1, 9), 0);
        Check.due("the other's stays", club.look(0, 9), 19);
        BuildingClub lots = Check.club("b0;h40", 500, 1, 1);
        lots.bid(0, 5);
        lots.bid(1, 20);
        lots.week(1);
        Check.due("by lot too", lots.look(0, 9), 0);
        Check.due("the other's stays", lots.look(1, 9), 20);
        Check.vote(lots, 3, "b1;h40");
        lots.week(1);
        Check.due("and counts later", lots.look(1, 6), 20);
    }

    private static void byLotNoBidCounts() {
        Check.sentence("b whether HOUSES are bid for (0, 1; 0)");
        BuildingClub club = Check.club("h40", 500, 1, 1);
        club.bid(1, 20);
        club.week(1);
        Check.due("by lot at first", winner(club, 1), 0);
        BuildingClub bids = Check.club("h40;b1", 500, 1, 1);
        bids.bid(1, 20);
        bids.week(1);
        Check.due("by bids", winner(bids, 1), 1);
    }

    private static void aHouseFromThenOn() {
        Check.sentence("It has a HOUSE from then on, of g STAGES");
        for (int g = 1; g <= 5; g++) {
            BuildingClub club = Check.club("h40;g" + g, 100, 1, 1);
            club.week(1);
            Check.due("stages of g" + g, club.look(0, 12), g);
            Check.due("stages paid", club.look(0, 5), 0);
            Check.due("held", club.look(0, 6), 40);
            Check.due("lacks", club.look(0, 7), 0);
            Check.due("it can't leave", club.leave(0), false);
            Check.due("the other can", club.leave(1), true);
        }
    }
}
