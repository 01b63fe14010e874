/** Promises 8 and 10: houses paid by stages as they are seen, and a builder who fails. */
public final class StagesTest {
    public static void main(String[] args) {
        refusedAnywhere();
        stageByStage();
        stagesAsAtTheDraw();
        failWithCash();
        failWithoutCash();
        lacksByNumbers();
        lacksBehindTheDraw();
        oneStage();
        Check.end();
    }

    private static void refusedAnywhere() {
        BuildingClub club = Check.club(1, 1);
        int[] members = {0, 1, 2, -1, 12, Integer.MAX_VALUE, Integer.MIN_VALUE};
        for (int m : members) {
            Check.due("seen(" + m + ")", club.seen(m), false);
            Check.due("fail(" + m + ")", club.fail(m), false);
        }
        Check.due("nothing was done", club.count(6), 2);
    }

    private static void stageByStage() {
        BuildingClub club = Check.club("h20;g3", 500, 1);
        club.week(1);
        Check.due("in the week of the draw", club.look(0, 5), 0);
        club.week(1);
        Check.due("not seen, not paid", club.look(0, 5), 0);
        Check.due("fail ahead of a stage", club.fail(0), false);
        Check.due("seen", club.seen(0), true);
        Check.due("seen again", club.seen(0), false);
        club.week(2);
        Check.due("one stage for being seen once", club.look(0, 5), 1);
        Check.due("a third, rounded down", club.club(1), 6);
        Check.due("held", club.look(0, 6), 14);
        club.seen(0);
        club.week(1);
        Check.due("the second", club.look(0, 6), 8);
        Check.due("none is done yet", club.count(4), 0);
        club.seen(0);
        club.week(1);
        Check.due("all that is held", club.look(0, 6), 0);
        Check.due("to the builder", club.club(1), 20);
        Check.due("stages paid", club.look(0, 5), 3);
        Check.due("stages in all", club.look(0, 12), 3);
        Check.due("done", club.count(4), 1);
        Check.due("seen when done", club.seen(0), false);
        Check.due("fail when done", club.fail(0), false);
        club.week(1);
        Check.due("no more to the builder", club.club(1), 20);
    }

    private static void stagesAsAtTheDraw() {
        BuildingClub club = Check.club("h20;g4;s30", 500, 1);
        club.week(1);
        Check.vote(club, 1, "h999;g1;s30");
        club.seen(0);
        club.week(1);
        Check.due("stages as at the draw", club.look(0, 12), 4);
        Check.due("a stage as at the draw", club.look(0, 6), 15);
        BuildingClub bids = Check.club("h21;g3;b1;s30", 500, 1);
        bids.bid(0, 10);
        bids.week(1);
        bids.seen(0);
        bids.week(1);
        Check.due("through what is held, not h", bids.look(0, 6), 8);
    }

    private static void failWithCash() {
        BuildingClub club = Check.club("h20;g3;s31", 500, 1);
        club.week(1);
        club.seen(0);
        club.week(1);
        club.seen(0);
        long cash = club.club(0);
        Check.due("fail", club.fail(0), true);
        Check.due("the stage is not paid", club.look(0, 5), 0);
        Check.due("held as before", club.look(0, 6), 20);
        Check.due("from cash", club.club(0), cash - 6);
        Check.due("what was paid is lost", club.club(1), 6);
        Check.due("it lacks nothing", club.look(0, 7), 0);
        Check.duePennies("behind a failure", club);
        club.week(1);
        Check.due("it is not seen", club.look(0, 5), 0);
        club.seen(0);
        club.week(1);
        club.seen(0);
        club.week(1);
        Check.due("two stages", club.look(0, 5), 2);
        Check.due("fail", club.fail(0), true);
        Check.due("fail again", club.fail(0), true);
        Check.due("no stage is left", club.fail(0), false);
        Check.due("held", club.look(0, 6), 20);
        Check.due("lost", club.club(1), 18);
    }

    /** A house of 100 in two stages, its first paid, and no cash in the club. */
    private static BuildingClub poor(String more) {
        BuildingClub club = Check.club("h100;g2;s50;r0;f0" + more, 0, 1, 1);
        club.pay(0, 50);
        club.pay(1, 50);
        club.week(1);
        club.seen(0);
        club.week(1);
        return club;
    }

    private static void failWithoutCash() {
        BuildingClub club = poor("");
        Check.due("no cash", club.club(0), 0);
        Check.due("fail", club.fail(0), true);
        Check.due("it lacks", club.look(0, 7), 50);
        Check.due("held", club.look(0, 6), 50);
        Check.due("stages paid", club.look(0, 5), 0);
        Check.due("fail while it lacks", club.fail(0), false);
        Check.due("seen while it lacks", club.seen(0), false);
        club.week(1);
        Check.due("it lacks still", club.look(0, 7), 50);
        club.pay(0, 150);
        club.week(1);
        Check.due("cash was taken", club.look(0, 7), 0);
        Check.due("held", club.look(0, 6), 100);
        Check.due("cash left", club.club(0), 100);
        Check.due("seen", club.seen(0), true);
        Check.duePennies("behind what it lacked", club);
    }

    private static void lacksByNumbers() {
        BuildingClub club = Check.club("h90;g3;s30;r0;f0", 30, 1, 1, 1);
        club.week(1);
        club.pay(0, 30);
        club.pay(1, 30);
        club.pay(2, 30);
        club.lot(1);
        club.week(1);
        Check.due("two houses", club.count(3), 2);
        club.seen(0);
        club.seen(2);
        club.week(1);
        club.fail(2);
        club.fail(0);
        Check.due("both lack", club.look(0, 7) + club.look(2, 7), 60);
        club.pay(1, 60);
        club.week(1);
        Check.due("the lower number first", club.look(0, 7), 0);
        Check.due("and the other, out of the rest", club.look(2, 7), 0);
        Check.due("no cash is left", club.club(0), 0);
    }

    private static void lacksBehindTheDraw() {
        BuildingClub club = poor("");
        club.fail(0);
        club.pay(1, 150);
        club.week(1);
        Check.due("the draw is first", club.look(1, 8), 3);
        Check.due("nothing is left for what it lacks", club.look(0, 7), 50);
        club.week(1);
        Check.due("the next week's cash", club.look(0, 7), 0);
        Check.due("cash", club.club(0), 0);
        BuildingClub other = poor("");
        other.fail(0);
        Check.vote(other, 3, "h101;g2;s50;r0;f0");
        other.pay(1, 100);
        other.week(1);
        Check.due("no draw", other.count(3), 1);
        Check.due("cash is enough for what it lacks", other.look(0, 7), 0);
        Check.due("cash", other.club(0), 50);
    }

    private static void oneStage() {
        BuildingClub club = Check.club("h20;g1", 500, 1);
        club.week(1);
        club.seen(0);
        club.week(1);
        Check.due("done", club.count(4), 1);
        Check.due("the only stage is the last", club.fail(0), false);
    }
}
