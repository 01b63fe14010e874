/** The 400 calls that are kept, refused calls, and the dearest questions. */
public final class LimitsTest {
    public static void main(String[] args) {
        fourHundredCalls();
        refusedCallsAreNotKept();
        greatestSums();
        longestReplay();
        Check.end();
    }

    private static void fourHundredCalls() {
        BuildingClub club = Check.club("h40;g2", 1000, 1, 1);
        club.week(1);
        club.seen(0);
        club.week(1);
        for (int done = club.count(6); done < 400; done++) {
            Check.due("call " + done, club.lot(done), true);
        }
        Check.due("calls that were done", club.count(6), 400);
        Check.due("member", club.member(1), -1);
        Check.due("pay", club.pay(0, 1), false);
        Check.due("lot", club.lot(1), false);
        Check.due("bid", club.bid(0, 1), false);
        Check.due("seen", club.seen(0), false);
        Check.due("fail", club.fail(0), false);
        Check.due("week", club.week(1), -1);
        Check.due("leave", club.leave(1), false);
        Check.feed(club, "s30;");
        Check.due("vote", club.vote(3, 3), -1);
        Check.due("a vote that is not carried", club.vote(0, 3), -1);
        Check.due("a vote with a fault", club.vote(3, 4), -1);
        Check.due("the tape stays", club.count(7), 20);
        Check.due("feed goes on", club.feed(0, 0, 0, 0, 0), 40);
        Check.due("no more were done", club.count(6), 400);
        Check.due("members", club.count(0), 2);
        Check.due("the week", club.count(2), 2);
        Check.due("credit", club.look(0, 2), 950);
        Check.due("end goes on", club.end(), 2);
        Check.due("beside goes on", club.beside(0, 0), 80);
    }

    private static void refusedCallsAreNotKept() {
        BuildingClub club = Check.club(1);
        for (int i = 0; i < 450; i++) {
            club.pay(0, 0);
            club.week(0);
            club.member(9);
            Check.vote(club, 0, "s30");
            Check.vote(club, 1, "s");
        }
        Check.due("calls that were done", club.count(6), 1);
        Check.due("pay", club.pay(0, 1), true);
    }

    private static void greatestSums() {
        BuildingClub club = Check.club("s1000;r1000;f500;l100;q0;h9999", 0, 5, 5);
        for (int i = 0; i < 380; i++) {
            club.pay(0, 100000);
        }
        Check.due("paid in", club.club(7), 38000000);
        club.week(1);
        club.leave(0);
        Check.due("due to the leaver", club.look(0, 10), 38000000);
        club.week(1);
        Check.due("got", club.look(0, 11), 38000000);
        Check.duePennies("behind a great sum", club);
        BuildingClub arrears = Check.club("s1000;r1000;f500;h9999", 0, 5, 5, 5, 5, 5, 5, 5, 5, 5, 5, 5, 5);
        for (int i = 0; i < 387; i++) {
            arrears.week(100);
        }
        Check.due("arrears of 38700 weeks", arrears.look(11, 3), 38700 * 7500);
        Check.due("fines", arrears.club(2), 38700L * 2500 * 12);
        Check.due("the end, twelve weeks on", arrears.end(), 38712);
        Check.due("done", arrears.count(6), 400);
        BuildingClub paid = Check.club("s1000;f500;l100;h9999", 0, 5);
        paid.week(100);
        for (int i = 0; i < 380; i++) {
            paid.pay(0, 100000);
        }
        Check.vote(paid, 1, "h9999;b1");
        paid.week(1);
        Check.due("paid", paid.look(0, 4), 750000 + 100);
        Check.due("credit", paid.look(0, 2), 38000000 - 750100);
    }

    private static void longestReplay() {
        BuildingClub club = Check.club("s1;h9999", 5000, 1, 1, 1);
        Check.vote(club, 7, "s1;h9998");
        for (int i = 0; i < 390; i++) {
            club.week(100);
        }
        Check.due("the week", club.count(2), 39000);
        for (int i = 0; i < 20; i++) {
            long with = club.beside(0, 0);
            Check.due("without the first it is as it is", with, club.club(0));
            Check.due("houses without the second", club.beside(1, 1), 1);
        }
    }
}
