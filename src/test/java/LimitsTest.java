/** The 400 calls that are kept, the greatest sums, and the dearest questions. */
public final class LimitsTest {
    public static void main(String[] args) {
        fourHundredthCall();
        moreAreRefused();
        votesBehindFourHundredCalls();
        questionsBehindFourHundredCalls();
        refusedCallsAreNotKept();
        greatestSums();
        longestReplay();
        Check.end();
    }

    /** Houses of 0 and 1, a stage of the first one paid, number 2 without one, and so many calls. */
    private static BuildingClub after(int calls) {
        BuildingClub club = Check.club("h40;g2", 1000, 1, 1);
        club.week(1);
        club.seen(0);
        club.week(1);
        club.member(2);
        for (int done = club.count(6); done < calls; done++) {
            club.lot(done);
        }
        Check.feed(club, "s30;");
        return club;
    }

    /** A call of each kind, all of which can be done; behind 400 calls each is refused. */
    private static int callOf(int kind, BuildingClub club) {
        switch (kind) {
            case 0: return club.member(1);
            case 1: return club.vote(5, 3);
            case 2: return club.pay(0, 1) ? 1 : -1;
            case 3: return club.lot(1) ? 1 : -1;
            case 4: return club.bid(2, 1) ? 1 : -1;
            case 5: return club.seen(0) ? 1 : -1;
            case 6: return club.leave(2) ? 1 : -1;
            case 7: return club.fail(0) ? 1 : -1;
            default: return club.week(1);
        }
    }

    private static void fourHundredthCall() {
        Check.sentence("400 such calls are kept");
        int[] want = {3, 1, 1, 1, 1, 1, 1, 1, 3};
        for (int kind = 0; kind < want.length; kind++) {
            BuildingClub club = after(399);
            Check.due("done before", club.count(6), 399);
            Check.due("the 400th call, of kind " + kind, callOf(kind, club), want[kind]);
            Check.due("done", club.count(6), 400);
            Check.due("beside it", club.beside(0, 1), 0);
        }
    }

    private static void moreAreRefused() {
        Check.sentence("400 such calls are kept; more are refused.");
        String before = Standing.of(after(400));
        for (int kind = 0; kind < 9; kind++) {
            BuildingClub club = after(400);
            Check.due("the 401st call, of kind " + kind, callOf(kind, club), -1);
            Check.due("how the club stands behind kind " + kind, Standing.of(club), before);
        }
    }

    private static void votesBehindFourHundredCalls() {
        Check.sentence("vote: NONE: [..] 400 calls were done (the tape stays)");
        BuildingClub club = after(400);
        Check.due("one that would be carried", club.vote(5, 3), -1);
        Check.due("one that would not", club.vote(0, 3), -1);
        Check.due("one with a fault", club.vote(5, 4), -1);
        Check.due("one of no bytes", club.vote(5, 0), -1);
        Check.due("the tape stays", club.count(7), 20);
        Check.due("feed goes on", club.feed(0, 0, 0, 0, 0), 40);
        Check.due("and is no call that is kept", club.count(6), 400);
    }

    private static void questionsBehindFourHundredCalls() {
        Check.sentence("questions behind 400 calls");
        BuildingClub club = after(400);
        Check.due("look", club.look(0, 2), 1000 - 20 - 30);
        Check.due("club", club.club(1), 20);
        Check.due("rule", club.rule('h'), 40);
        Check.due("count", club.count(2), 2);
        Check.due("end", club.end(), 3);
        Check.due("cash beside the vote", club.beside(0, 0), 80);
    }

    private static void refusedCallsAreNotKept() {
        Check.sentence("6 calls that were done");
        BuildingClub club = Check.club(1);
        for (int i = 0; i < 60; i++) {
            club.pay(0, 0);
            club.week(0);
            club.member(9);
            Check.vote(club, 0, "s30");
            Check.vote(club, 1, "s");
        }
        Check.due("refused ones are not among them", club.count(6), 1);
        Check.due("pay", club.pay(0, 1), true);
        Check.due("calls that were done", club.count(6), 2);
        club.look(0, 0);
        club.club(0);
        club.rule('s');
        club.end();
        club.beside(0, 0);
        club.feed(0, 0, 0, 0, 0);
        Check.due("nor are questions and feeds", club.count(6), 2);
    }

    private static void greatestSums() {
        Check.sentence("pence paid by 400 calls, ARREARS of 40000 WEEKS");
        BuildingClub club = Check.club("s1000;r1000;f500;l100;q0;h9999", 0, 5, 5);
        for (int i = 0; i < 380; i++) {
            club.pay(0, 100000);
        }
        Check.due("paid in", club.club(7), 38000000);
        club.week(1);
        club.leave(0);
        Check.due("due to the leaver", club.look(0, 10), 38000000);
        club.week(1);
        Check.due("got", club.look(0, 11), 38000000);
        Check.duePennies("behind a great sum", club);
        BuildingClub arrears = Check.club("s1000;r1000;f500;h9999", 0, 5, 5, 5, 5, 5, 5, 5, 5, 5, 5, 5, 5);
        for (int i = 0; i < 387; i++) {
            arrears.week(100);
        }
        Check.due("arrears of 38700 weeks", arrears.look(11, 3), 38700 * 7500);
        Check.due("fines", arrears.club(2), 38700L * 2500 * 12);
        Check.due("the end, twelve weeks on", arrears.end(), 38712);
        Check.due("done", arrears.count(6), 400);
        BuildingClub paid = Check.club("s1000;f500;l100;h9999", 0, 5);
        paid.week(100);
        for (int i = 0; i < 380; i++) {
            paid.pay(0, 100000);
        }
        Check.vote(paid, 1, "h9999;b1");
        paid.week(1);
        Check.due("paid", paid.look(0, 4), 750000 + 100);
        Check.due("credit", paid.look(0, 2), 38000000 - 750100);
    }

    private static void longestReplay() {
        Check.sentence("BESIDE a VOTE, with 400 calls of 100 WEEKS each");
        BuildingClub club = Check.club("s1;h9999", 5000, 1, 1, 1);
        Check.vote(club, 7, "s1;h9998");
        for (int i = 0; i < 390; i++) {
            club.week(100);
        }
        Check.due("the week", club.count(2), 39000);
        for (int i = 0; i < 20; i++) {
            long with = club.beside(0, 0);
            Check.due("without the first it is as it is", with, club.club(0));
            Check.due("houses without the second", club.beside(1, 1), 1);
        }
    }
}
