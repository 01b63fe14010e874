/** A VOTE and the RULES it brings: promises 4 and 14. */
public final class VoteTest {
    public static void main(String[] args) {
        moreThanHalf();
        ofThoseWhoAreIn();
        notCarried();
        firstBytesOfTheTape();
        numbersOfVotes();
        faultAheadOfNotCarried();
        noSuchMembers();
        oneIsNotIn();
        notSoManyBytes();
        fromTheNextWeekOn();
        lastOneOfAWeek();
        rulesOfNextWeek();
        noSuchLetters();
        Check.end();
    }

    private static void moreThanHalf() {
        Check.sentence("it is CARRIED if they have more than half of all SHARES of those who are IN");
        BuildingClub club = Check.club(2, 1, 3);
        Check.due("3 of 6, one member", Check.vote(club, 4, "s1"), -2);
        Check.due("3 of 6, two members", Check.vote(club, 3, "s2"), -2);
        Check.due("4 of 6", Check.vote(club, 6, "s3"), 0);
        Check.due("5 of 6", Check.vote(club, 5, "s4"), 1);
        Check.due("6 of 6", Check.vote(club, 7, "s5"), 2);
        BuildingClub odd = Check.club(2, 3);
        Check.due("2 of 5", Check.vote(odd, 1, "s1"), -2);
        Check.due("3 of 5", Check.vote(odd, 2, "s1"), 0);
        BuildingClub full = Check.club(5, 5, 5, 5, 5, 5, 5, 5, 5, 5, 5, 5);
        Check.due("30 of 60", Check.vote(full, 0xfc0, "s1"), -2);
        Check.due("35 of 60", Check.vote(full, 0xfe0, "s1"), 0);
        Check.due("more members, not more shares", Check.vote(Check.club(1, 1, 5), 3, "s1"), -2);
    }

    private static void ofThoseWhoAreIn() {
        Check.sentence("by a set of MEMBERS who are IN: [..] of all SHARES of those who are IN");
        BuildingClub club = Check.club(2, 1, 3);
        Check.due("2 of 6", Check.vote(club, 1, "s1"), -2);
        club.leave(2);
        Check.due("2 of 3", Check.vote(club, 1, "s1"), 0);
        club.leave(0);
        Check.due("1 of 1", Check.vote(club, 2, "s1"), 1);
        club.member(1);
        Check.due("1 of 2", Check.vote(club, 2, "s1"), -2);
        Check.due("the one who came later", Check.vote(club, 10, "s1"), 2);
    }

    private static void notCarried() {
        Check.sentence("-2: it is not");
        BuildingClub club = Check.club(1, 1);
        Check.due("by nobody", Check.vote(club, 0, "s30"), -2);
        Check.due("s as at first", club.rule('s'), 20);
        Check.due("the tape is empty", club.count(7), 0);
        Check.due("by half", Check.vote(club, 2, "s30"), -2);
        Check.due("votes carried", club.count(5), 0);
        Check.due("by nobody in an empty club", Check.vote(new BuildingClub(), 0, "s30"), -2);
        club.leave(0);
        club.leave(1);
        Check.due("by nobody where all have left", Check.vote(club, 0, "s30"), -2);
    }

    private static void firstBytesOfTheTape() {
        Check.sentence("A VOTE for the first n bytes of the tape (empty then) by MEMBERS (bits)");
        BuildingClub club = Check.club(1);
        Check.feed(club, "s30;r20");
        Check.due("three bytes", club.vote(1, 3), 0);
        Check.due("s", club.rule('s'), 30);
        Check.due("r is not of them", club.rule('r'), 10);
        Check.due("empty, what is behind them too", club.count(7), 0);
        Check.feed(club, "s35");
        Check.due("all of the tape", club.vote(1, 20), -503);
        Check.due("empty with a fault", club.count(7), 0);
        Check.feed(club, "s36;s37;s38;s39;s400");
        Check.due("all twenty", club.vote(1, 20), 1);
        Check.due("s", club.rule('s'), 400);
        Check.feed(club, "s5");
        Check.due("no bytes", club.vote(1, 0), -100);
        Check.due("empty with no bytes", club.count(7), 0);
        Check.due("no bytes of an empty tape", club.vote(1, 0), -100);
    }

    private static void numbersOfVotes() {
        Check.sentence("its number, if it is CARRIED");
        BuildingClub club = Check.club(1, 1);
        Check.due("the first", Check.vote(club, 3, "s30"), 0);
        Check.due("not carried", Check.vote(club, 1, "s31"), -2);
        Check.due("with a fault", Check.vote(club, 3, "s"), -201);
        Check.due("refused", Check.vote(club, 7, "s32"), -1);
        Check.due("no bytes, so that the tape is empty", club.vote(3, 0), -100);
        Check.due("the second", Check.vote(club, 3, "s33"), 1);
        club.week(5);
        Check.due("the same text again", Check.vote(club, 3, "s33"), 2);
        Check.due("votes carried", club.count(5), 3);
    }

    private static void faultAheadOfNotCarried() {
        Check.sentence("-2: it is not; -100 times a FAULT's number, less its place");
        BuildingClub club = Check.club(1, 1);
        Check.due("a fault, by nobody", Check.vote(club, 0, "s0"), -401);
        Check.due("a fault, by half", Check.vote(club, 1, "s20;"), -104);
        Check.due("a fault, by all", Check.vote(club, 3, "s20;"), -104);
        Check.due("a fault in an empty club", Check.vote(new BuildingClub(), 0, "y"), -100);
    }

    private static void noSuchMembers() {
        Check.sentence("NONE: no such MEMBERS, [..] (the tape stays)");
        BuildingClub club = Check.club(2, 1, 3);
        Check.feed(club, "s30");
        int[] sets = {8, 15, 13, 0x1000, 0x80000000, 0x80000007, -1, Integer.MAX_VALUE};
        for (int set : sets) {
            Check.due("vote(" + set + ", 3)", club.vote(set, 3), -1);
            Check.due("a text with a fault, vote(" + set + ", 20)", club.vote(set, 20), -1);
        }
        Check.due("the tape stays", club.count(7), 20);
        Check.due("as it was", club.vote(7, 3), 0);
        Check.due("s", club.rule('s'), 30);
        BuildingClub full = Check.club(1, 1, 1, 1, 1, 1, 1, 1, 1, 1, 1, 1);
        Check.feed(full, "s30");
        Check.due("number 12", full.vote(0x1fff, 3), -1);
        Check.due("0 to 11", full.vote(0xfff, 3), 0);
        BuildingClub empty = new BuildingClub();
        Check.feed(empty, "s30");
        Check.due("number 0 of an empty club", empty.vote(1, 3), -1);
    }

    private static void oneIsNotIn() {
        Check.sentence("NONE: [..] one is not IN, [..] (the tape stays)");
        BuildingClub club = Check.club(2, 1, 3);
        club.leave(1);
        Check.feed(club, "s30");
        Check.due("the leaver and all others", club.vote(7, 3), -1);
        Check.due("the leaver alone", club.vote(2, 3), -1);
        Check.due("the tape stays", club.count(7), 20);
        Check.due("all others", club.vote(5, 3), 0);
        club.leave(0);
        Check.feed(club, "s40");
        Check.due("number 0 is not in", club.vote(1, 3), -1);
        Check.due("number 0 is not in, with another", club.vote(5, 3), -1);
        Check.due("the last number is", club.vote(4, 3), 1);
        club.leave(2);
        Check.feed(club, "s50");
        Check.due("the last number is not in", club.vote(4, 3), -1);
        Check.due("the tape stays", club.count(7), 20);
    }

    private static void notSoManyBytes() {
        Check.sentence("NONE: [..] it has not so many, [..] (the tape stays)");
        BuildingClub club = Check.club(1);
        Check.due("a byte of an empty tape", club.vote(1, 1), -1);
        Check.feed(club, "s30");
        int[] wrong = {21, 40, 60, 61, -1, -20, Integer.MAX_VALUE, Integer.MIN_VALUE};
        for (int n : wrong) {
            Check.due("vote(1, " + n + ") of 20", club.vote(1, n), -1);
        }
        Check.due("the tape stays", club.count(7), 20);
        club.feed(0, 0, 0, 0, 0);
        club.feed(0, 0, 0, 0, 0);
        Check.due("61 of 60", club.vote(1, 61), -1);
        Check.due("three of 60", club.vote(1, 3), 0);
        Check.due("s", club.rule('s'), 30);
        Check.due("a byte of the tape, empty then", club.vote(1, 1), -1);
    }

    private static void fromTheNextWeekOn() {
        Check.sentence("A TEXT that was CARRIED is in force from the next WEEK on");
        BuildingClub club = Check.club(1);
        club.pay(0, 1000);
        club.week(1);
        Check.due("s20", club.look(0, 2), 980);
        Check.vote(club, 1, "s30");
        Check.due("nothing is taken by a vote", club.look(0, 2), 980);
        club.week(1);
        Check.due("s30", club.look(0, 2), 950);
        club.week(3);
        Check.due("and from then on", club.look(0, 2), 860);
        BuildingClub first = Check.club(1);
        first.pay(0, 1000);
        Check.vote(first, 1, "s70");
        first.week(2);
        Check.due("a vote ahead of week 1", first.look(0, 2), 860);
    }

    private static void lastOneOfAWeek() {
        Check.sentence("(of several of one WEEK the last one)");
        BuildingClub club = Check.club(1, 1);
        club.pay(0, 1000);
        Check.vote(club, 3, "s500");
        Check.vote(club, 3, "s400;q1");
        Check.vote(club, 3, "s50");
        Check.vote(club, 1, "s9");
        Check.vote(club, 3, "s");
        Check.due("neither one not carried nor one with a fault", club.rule('s'), 50);
        Check.due("nothing of the others", club.rule('q'), 4);
        club.week(1);
        Check.due("credit", club.look(0, 2), 950);
    }

    private static void rulesOfNextWeek() {
        Check.sentence("The number of a letter (a byte) of RULES in force next WEEK");
        BuildingClub club = Check.club(1);
        Check.vote(club, 1, "s31");
        Check.due("ahead of that week", club.rule('s'), 31);
        club.week(1);
        Check.due("in that week", club.rule('s'), 31);
        Check.vote(club, 1, "h31");
        Check.due("s as at first", club.rule('s'), 20);
        Check.due("h", club.rule('h'), 31);
    }

    private static void noSuchLetters() {
        Check.sentence("NONE: no such letter");
        BuildingClub club = Check.club(1);
        for (int letter = -2; letter <= 300; letter++) {
            boolean known = letter >= 0 && "srfhgblq".indexOf(letter) >= 0;
            Check.due("a number for letter " + letter, club.rule(letter) != -1, known);
        }
        int[] wrong = {'s' + 256, 's' - 256, 's' + 65536, 's' - 65536, -'s', Integer.MAX_VALUE,
            Integer.MIN_VALUE, Integer.MIN_VALUE + 's'};
        for (int letter : wrong) {
            Check.due("rule(" + letter + ")", club.rule(letter), -1);
        }
    }
}
