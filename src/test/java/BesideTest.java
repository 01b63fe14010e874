/** Promise 16: how things would stand without one of the votes. */
public final class BesideTest {
    public static void main(String[] args) {
        noSuchVote();
        noSuchWhat();
        withoutEachVote();
        laterCallsCount();
        whatCannotBeDone();
        voteNotCarriedThere();
        voteRefusedThenStaysOut();
        refusedThoughItCouldBeDoneThere();
        lotsAndBidsThere();
        oneReplayBehindAnother();
        lackOfAnotherReplay();
        leaversAheadOfWeekOne();
        askedInAnyOrder();
        endThere();
        changesNothing();
        Check.end();
    }

    private static void noSuchVote() {
        Check.sentence("beside: NONE: no such VOTE");
        BuildingClub club = Check.club(1, 1);
        Check.due("no vote yet", club.beside(0, 0), -1);
        Check.vote(club, 1, "s30");
        Check.due("a vote that was not carried", club.beside(0, 0), -1);
        Check.vote(club, 3, "s30;");
        Check.due("a vote with a fault", club.beside(0, 0), -1);
        Check.vote(club, 3, "s30");
        int[] wrong = {-1, 1, 400, Integer.MAX_VALUE, Integer.MIN_VALUE};
        for (int k : wrong) {
            for (int what = 0; what <= 2; what++) {
                Check.due("beside(" + k + ", " + what + ")", club.beside(k, what), -1);
            }
            Check.due("beside(" + k + ", 10)", club.beside(k, 10), -1);
        }
        Check.vote(club, 3, "s40");
        Check.due("the first", club.beside(0, 0), 0);
        Check.due("the last", club.beside(1, 0), 0);
        Check.due("one behind the last", club.beside(2, 0), -1);
    }

    private static void noSuchWhat() {
        Check.sentence("beside: NONE: others");
        BuildingClub club = Check.club("s30", 7, 1, 1);
        int[] wrong = {-1, 3, 4, 9, 12, 13, 21, 22, 23, Integer.MAX_VALUE, Integer.MIN_VALUE,
            Integer.MIN_VALUE + 10, Integer.MIN_VALUE + 12};
        for (int what : wrong) {
            Check.due("beside(0, " + what + ")", club.beside(0, what), -1);
        }
        Check.due("cash", club.beside(0, 0), 0);
        Check.due("houses", club.beside(0, 1), 0);
        Check.due("credit of number 0", club.beside(0, 10), 7);
        Check.due("credit of number 1", club.beside(0, 11), 7);
        club.leave(1);
        Check.due("of a leaver", club.beside(0, 11), 0);
        club.member(1);
        Check.due("of number 2, who has come", club.beside(0, 12), 0);
    }

    private static void withoutEachVote() {
        Check.sentence("BESIDE a VOTE: how things would stand if it had not been CARRIED");
        BuildingClub club = Check.club(1, 1);
        club.pay(0, 1000);
        club.pay(1, 900);
        Check.vote(club, 3, "s30");
        Check.vote(club, 3, "s50");
        club.week(1);
        Check.vote(club, 3, "s70;h10");
        club.week(1);
        Check.due("as it is", club.club(0), 100 + 140 - 10);
        Check.due("without 0, 1 was in force all the same", club.beside(0, 0), 230);
        Check.due("without 1: s30 in week 1", club.beside(1, 0), 60 + 140 - 10);
        Check.due("without 2: s50 twice", club.beside(2, 0), 200);
        Check.due("houses without 2", club.beside(2, 1), 0);
        Check.due("houses without 1", club.beside(1, 1), 1);
        Check.due("credit without 1", club.beside(1, 10), 900);
        Check.due("credit of 1 without 2", club.beside(2, 11), 800);
        Check.due("and without 0 again", club.beside(0, 11), 780);
    }

    private static void laterCallsCount() {
        Check.sentence("all that was done [..] is done again in its order without it");
        BuildingClub club = Check.club("s30", 100, 1);
        Check.due("ahead of a week", club.beside(0, 10), 100);
        club.week(1);
        Check.due("behind a week", club.beside(0, 10), 80);
        Check.due("and again", club.beside(0, 10), 80);
        club.pay(0, 5);
        club.member(3);
        club.pay(1, 61);
        club.week(1);
        Check.due("behind two weeks", club.beside(0, 10), 65);
        Check.due("a member who came later", club.beside(0, 11), 1);
        Check.due("cash", club.beside(0, 0), 100);
        Check.vote(club, 3, "h110;f0");
        club.week(1);
        Check.due("the later vote is done there", club.beside(0, 1), 1);
        Check.due("cash there", club.beside(0, 0), 120 - 110);
        Check.due("and not without it", club.beside(1, 1), 0);
    }

    private static void whatCannotBeDone() {
        Check.sentence("what could not be done then is passed over");
        BuildingClub club = Check.club("h40;g2", 200, 1, 1);
        club.week(1);
        Check.due("seen", club.seen(0), true);
        club.week(1);
        Check.due("failed", club.fail(0), true);
        Check.due("cash", club.club(0), 10);
        Check.due("paid to the builder", club.club(1), 20);
        Check.due("without the rules: no house", club.beside(0, 1), 0);
        Check.due("nothing was seen, nothing failed", club.beside(0, 0), 80);
        Check.due("credit", club.beside(0, 10), 160);
        BuildingClub leaver = Check.club("h9999;s20", 800, 1, 1);
        leaver.week(30);
        Check.due("leave", leaver.leave(0), true);
        leaver.pay(1, 100);
        Check.due("as it is", leaver.look(0, 2), 0);
        Check.due("there it has a house and stays", leaver.beside(0, 10), 800 - 15 * 20 - 15 * 30);
    }

    /** Number 0 has a house beside vote 0, so that it can't leave there. */
    private static void voteNotCarriedThere() {
        Check.sentence("what could not be done then is passed over (a VOTE)");
        BuildingClub club = Check.club("h9999;s20", 1000, 3, 2);
        club.week(6);
        club.leave(0);
        Check.due("carried by those who are in", Check.vote(club, 2, "s1"), 1);
        club.week(1);
        Check.due("credit of 1", club.look(1, 2), 1000 - 6 * 40 - 2);
        Check.due("2 of 5 do not carry it there", club.beside(0, 11), 1000 - 7 * 40);
        Check.due("nor did the other leave", club.beside(0, 10), 1000 - 6 * 60 - 90);
        Check.due("without the later vote", club.beside(1, 11), 1000 - 7 * 40);
    }

    private static void voteRefusedThenStaysOut() {
        Check.sentence("(what was refused then is not)");
        BuildingClub club = Check.club(2, 2);
        club.pay(0, 1000);
        club.pay(1, 1000);
        Check.due("not carried", Check.vote(club, 1, "s1"), -2);
        Check.due("a payment that was refused", club.pay(0, 100001), false);
        Check.due("carried", Check.vote(club, 3, "s30"), 0);
        club.week(1);
        Check.due("as at first", club.beside(0, 10), 960);
        Check.due("calls that were done", club.count(6), 6);
    }

    /** Each call that was refused could be done beside vote 0, and is not. */
    private static void refusedThoughItCouldBeDoneThere() {
        Check.sentence("all that was done (what was refused then is not) is done again");
        BuildingClub club = Check.club("h9999", 200, 1, 1);
        Check.vote(club, 3, "h9999");
        Check.vote(club, 3, "h40");
        Check.vote(club, 3, "h9999");
        club.week(1);
        Check.due("seen", club.seen(0), false);
        club.week(1);
        Check.due("fail", club.fail(0), false);
        Check.due("a house beside the last vote", club.beside(3, 1), 2);
        Check.due("50 and 40 of cash, less two houses, nothing more", club.beside(3, 0), 40 + 50 - 80);
        BuildingClub house = Check.club("h40", 200, 1, 1);
        house.week(1);
        Check.due("leave with a house", house.leave(0), false);
        house.week(1);
        Check.due("beside the vote it has not left", house.beside(0, 10), 160);
    }

    /** Beside vote 1 a house lacks something; nothing of that is left beside vote 0. */
    private static void oneReplayBehindAnother() {
        Check.sentence("BESIDE one VOTE, then BESIDE another");
        BuildingClub club = Check.club("h40;g2;s20;r0;f0", 0, 1, 1);
        Check.vote(club, 3, "h40;g2;s20;r0;f1");
        club.pay(0, 20);
        club.pay(1, 20);
        club.week(1);
        club.seen(0);
        club.week(1);
        club.fail(0);
        Check.vote(club, 3, "h9999");
        club.pay(0, 60);
        club.pay(1, 60);
        Check.due("it lacks", club.look(0, 7), 20);
        Check.due("without 0 it has a house", club.beside(0, 1), 1);
        Check.due("and no cash", club.beside(0, 0), 0);
        Check.due("without 1 too", club.beside(1, 1), 1);
        Check.due("without 2 too", club.beside(2, 0), 0);
        club.week(1);
        Check.due("51 and 41, less 20", club.beside(0, 0), 51 + 41 - 20);
        Check.due("50 and 40, less 20", club.beside(1, 0), 50 + 40 - 20);
        Check.due("41 and 41, less a house", club.beside(2, 0), 41 + 41 - 40 - 20);
        Check.due("again without 0", club.beside(0, 0), 51 + 41 - 20);
        Check.due("again without 1", club.beside(1, 0), 50 + 40 - 20);
        BuildingClub house = Check.club("h10;g2", 100, 1);
        Check.vote(house, 1, "h20;g2");
        house.week(1);
        house.seen(0);
        house.week(1);
        Check.vote(house, 1, "h20;s50");
        house.week(1);
        house.fail(0);
        Check.due("without 1 a house of 10", house.beside(1, 0), 10 + 30 - 5);
        Check.due("without 2 a house of 20", house.beside(2, 0), 30 + 30 - 10);
        Check.due("without 0", house.beside(0, 0), 30 - 10);
    }

    /** By vote 2 number 1 has a house at once, by vote 1 number 0; by vote 0 it takes some weeks. */
    private static BuildingClub fourVotes(boolean aWeekLater) {
        BuildingClub club = Check.club(1, 1, 2, 1);
        for (int m = 0; m < 3; m++) {
            club.pay(m, 900);
        }
        club.pay(3, 50);
        if (aWeekLater) {
            club.week(1);
        }
        Check.vote(club, 15, "h300;g4;b1;q0;f0");
        Check.vote(club, 15, "h60;g4;q1;f0");
        Check.vote(club, 15, "h60;g4;b1;q1;f0");
        club.bid(1, 9);
        club.week(1);
        club.seen(1);
        club.week(1);
        club.seen(1);
        club.week(2);
        club.fail(1);
        club.fail(1);
        club.seen(1);
        club.week(1);
        club.seen(1);
        Check.vote(club, 15, "h999;q0");
        club.bid(0, 20);
        club.lot(3);
        return club;
    }

    private static void later(BuildingClub club) {
        club.week(1);
        club.leave(3);
        club.leave(0);
        club.fail(1);
        club.week(2);
        club.member(3);
        club.lot(7);
    }

    private static String told(BuildingClub club, int k) {
        StringBuilder text = new StringBuilder();
        for (int what = 0; what <= 14; what++) {
            text.append(club.beside(k, what)).append(' ');
        }
        return text.toString();
    }

    private static void askedInAnyOrder() {
        Check.sentence("BESIDE a VOTE: nothing is left of what was asked before");
        for (int pair = 0; pair < 32; pair++) {
            int j = pair / 8;
            int k = pair / 2 % 4;
            BuildingClub club = fourVotes(pair % 2 == 1);
            BuildingClub fresh = fourVotes(pair % 2 == 1);
            told(club, j);
            Check.due("beside " + k + " behind " + j, told(club, k), told(fresh, k));
            later(club);
            told(club, j);
            later(fresh);
            Check.due("beside " + k + " behind " + j + ", later", told(club, k), told(fresh, k));
        }
    }

    private static void lackOfAnotherReplay() {
        Check.sentence("BESIDE two VOTES, a HOUSE that LACKS something");
        BuildingClub club = Check.club("h80;g2;s20;r0;f0", 40, 1, 1);
        Check.vote(club, 3, "h80;g2;s20;r0;f0");
        club.week(2);
        club.seen(0);
        club.week(1);
        club.fail(0);
        Check.due("it lacks", club.look(0, 7), 40);
        for (int k = 0; k < 4; k++) {
            Check.due("a house without either vote", club.beside(k % 2, 1), 1);
        }
    }

    private static void leaversAheadOfWeekOne() {
        Check.sentence("BESIDE two VOTES, a leaver ahead of WEEK 1");
        BuildingClub club = Check.club(1, 1);
        club.pay(0, 100);
        club.pay(1, 400);
        club.leave(0);
        Check.vote(club, 2, "q0;s30");
        Check.vote(club, 2, "q1;s40");
        club.week(3);
        Check.due("without 0", club.beside(0, 0), 100 + 120);
        Check.due("without 1: not got yet", club.beside(1, 0), 100 + 90);
        Check.due("without 0: not got yet", club.beside(0, 0), 100 + 120);
        club.week(1);
        Check.due("without 1: got", club.beside(1, 0), 120);
        Check.due("without 0: got", club.beside(0, 0), 160);
        Check.due("got", club.look(0, 11), 100);
    }

    private static void lotsAndBidsThere() {
        Check.sentence("all that was done is done again: numbers, BIDS, STAGES, leavers");
        BuildingClub club = Check.club("b1;h40;g2", 300, 1, 1, 1);
        club.bid(2, 20);
        club.bid(1, 9);
        club.lot(1);
        Check.vote(club, 7, "h60;g1;b1");
        club.week(1);
        Check.due("by bids, of 60", club.look(2, 6), 40);
        Check.due("nothing was done beside it that was not", club.beside(1, 1), 1);
        Check.due("20 of a house of 40 came back there", club.beside(1, 12), 280 + 6);
        Check.due("without the first as it is", club.beside(0, 12), 280 + 6);
        Check.due("cash there", club.beside(1, 0), 60 - 40 + 2);
        club.seen(2);
        Check.due("leave", club.leave(0), true);
        club.week(1);
        Check.due("the leaver has no credit there", club.beside(1, 10), 0);
        Check.due("houses there", club.beside(1, 1), 2);
        Check.due("a second vote is done there", club.beside(0, 1), club.count(3));
    }

    private static void endThere() {
        Check.sentence("2 THE END [..] (2: there is none)");
        BuildingClub club = Check.club("s1;h9999", 0, 1);
        Check.due("there is none", club.end(), -1);
        Check.due("beside it there is one", club.beside(0, 2), 30);
        Check.vote(club, 1, "s60");
        Check.due("as it is", club.end(), 10);
        Check.due("beside the first", club.beside(0, 2), 10);
        Check.due("beside the second there is none", club.beside(1, 2), -1);
    }

    private static void changesNothing() {
        Check.sentence("BESIDE a VOTE is asked, and nothing changes");
        BuildingClub club = Check.club("b1;h50;s30", 200, 1, 1);
        club.bid(1, 20);
        club.lot(1);
        Check.feed(club, "s1");
        long without = club.beside(0, 0);
        Check.due("nothing yet", without, 0);
        Check.due("the tape", club.count(7), 20);
        Check.due("calls", club.count(6), 7);
        Check.due("the bid", club.look(1, 9), 20);
        Check.due("rules", club.rule('s'), 30);
        club.week(1);
        Check.due("the bid counted", club.look(1, 6), 30);
        Check.due("cash there", club.beside(0, 0), 40);
        Check.due("cash", club.club(0), 10);
    }
}
