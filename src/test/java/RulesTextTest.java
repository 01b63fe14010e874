/** Promises 2, 4 and 14: the tape, votes for texts with their faults, and the rules. */
public final class RulesTextTest {
    public static void main(String[] args) {
        tape();
        ranges();
        faults();
        clauses();
        whoCarries();
        refusedVotes();
        inForceFromNextWeek();
        noSuchLetters();
        Check.end();
    }

    private static void tape() {
        BuildingClub club = Check.club(1);
        Check.due("feed once", club.feed(0x7337f3ff, -1, 0, 0, 0), 20);
        Check.due("vote for s7", club.vote(1, 2), 0);
        Check.due("s", club.rule('s'), 7);
        Check.due("the tape is empty then", club.count(7), 0);
        Check.due("feed 20", club.feed(0x7331323b, 0x7231333b, 0x6631343b, 0x68363135, 0x3b673034), 20);
        Check.due("feed 40", club.feed(0, 0, 0, 0, 0), 40);
        Check.due("feed 60", club.feed(0, 0, 0, 0, 0), 60);
        Check.due("feed more than 60", club.feed(0, 0, 0, 0, 0), -1);
        Check.due("bytes of the tape", club.count(7), 60);
        Check.due("feed is no call that is kept", club.count(6), 2);
        Check.due("vote for s12;r13;f14;h615;g04", club.vote(1, 20), 1);
        Check.due("s", club.rule('s'), 12);
        Check.due("r", club.rule('r'), 13);
        Check.due("f", club.rule('f'), 14);
        Check.due("h", club.rule('h'), 615);
        Check.due("g", club.rule('g'), 4);
        Check.due("a tape of 60 is empty then", club.count(7), 0);
        Check.due("60 bytes", Check.vote(club, 1, "s11;".repeat(14) + "q012"), 2);
        Check.due("q", club.rule('q'), 12);
        Check.due("60 bytes, the last a ;", Check.vote(club, 1, "s11;".repeat(15)), -160);
    }

    private static void ranges() {
        Object[][] all = {{'s', 1, 1000}, {'r', 0, 1000}, {'f', 0, 500}, {'h', 10, 9999},
            {'g', 1, 5}, {'b', 0, 1}, {'l', 0, 100}, {'q', 0, 99}};
        for (Object[] one : all) {
            char letter = (Character) one[0];
            int least = (Integer) one[1];
            int most = (Integer) one[2];
            BuildingClub club = Check.club(3);
            Check.due(letter + " least", Check.vote(club, 1, letter + "" + least), 0);
            Check.due(letter + " least as a rule", club.rule(letter), least);
            Check.due(letter + " most", Check.vote(club, 1, letter + "" + most), 1);
            Check.due(letter + " most as a rule", club.rule(letter), most);
            if (least > 0) {
                Check.due(letter + " too low", Check.vote(club, 1, letter + "" + (least - 1)), -401);
            }
            int tooHigh = most == 9999 ? -305 : -401;
            Check.due(letter + " too high", Check.vote(club, 1, letter + "" + (most + 1)), tooHigh);
            Check.due(letter + " stays", club.rule(letter), most);
        }
    }

    private static void faults() {
        Object[][] all = {{"", -100}, {"S20", -100}, {"20", -100}, {";", -100}, {" s20", -100},
            {"\u00f320", -100}, {"\0", -100}, {"s20;", -104}, {"s20;;", -104}, {"s20;x1", -104},
            {"s", -201}, {"s;", -201}, {"s-1", -201}, {"ss", -201}, {"s20;r", -205}, {"h\u00b2", -201},
            {"s12345", -305}, {"s99999", -305}, {"s00020", -305}, {"s1;h99999", -308},
            {"s0", -401}, {"s0000", -401}, {"s1001", -401}, {"s2;h9", -404}, {"s0x", -401},
            {"s2000;x", -401}, {"b2;s", -401}, {"s9999x", -401}, {"q100", -401},
            {"s20,r1", -503}, {"s20 ", -503}, {"s20r1", -503}, {"s20\0", -503}, {"s1;r1:f1", -505},
            {"s20;r1x;s0", -506}, {"s1/", -502}, {"s1:", -502}};
        BuildingClub club = Check.club(1);
        for (Object[] one : all) {
            String text = (String) one[0];
            Check.due("vote for '" + text + "'", Check.vote(club, 1, text), (Integer) one[1]);
            Check.due("the tape behind '" + text + "'", club.count(7), 0);
            Check.due("fault without voters '" + text + "'", Check.vote(club, 0, text), (Integer) one[1]);
        }
        Check.due("a vote with a fault is no call that was done", club.count(6), 1);
        Check.due("no vote was carried", club.count(5), 0);
        Check.due("s as at first", club.rule('s'), 20);
    }

    private static void clauses() {
        BuildingClub club = Check.club(1);
        Check.due("later one counts", Check.vote(club, 1, "s30;h700;s40"), 0);
        Check.due("s", club.rule('s'), 40);
        Check.due("h", club.rule('h'), 700);
        Check.due("the next text", Check.vote(club, 1, "r0007"), 1);
        Check.due("s is as at first", club.rule('s'), 20);
        Check.due("h is as at first", club.rule('h'), 600);
        Check.due("r", club.rule('r'), 7);
        Check.feed(club, "s30;r20");
        Check.due("the first n bytes alone", club.vote(1, 3), 2);
        Check.due("s", club.rule('s'), 30);
        Check.due("r", club.rule('r'), 10);
        Check.due("all eight", Check.vote(club, 1, "s1;r2;f3;h14;g5;b1;l7;q8"), 3);
        int[] want = {1, 2, 3, 14, 5, 1, 7, 8};
        for (int i = 0; i < want.length; i++) {
            Check.due("rule " + i, club.rule("srfhgblq".charAt(i)), want[i]);
        }
    }

    private static void whoCarries() {
        BuildingClub club = Check.club(2, 1, 3);
        Check.due("half is not more than half", Check.vote(club, 4, "s1"), -2);
        Check.due("half of two members", Check.vote(club, 3, "s2"), -2);
        Check.due("nobody", Check.vote(club, 0, "s3"), -2);
        Check.due("s as at first", club.rule('s'), 20);
        Check.due("none is done", club.count(6), 3);
        Check.due("more than half", Check.vote(club, 5, "s5"), 0);
        Check.due("more than half again", Check.vote(club, 6, "s6"), 1);
        Check.due("carried", club.count(5), 2);
        Check.due("done", club.count(6), 5);
        Check.due("leave(2)", club.leave(2), true);
        Check.due("shares of those who are in", Check.vote(club, 1, "s7"), 2);
        Check.due("nobody's empty club", Check.vote(new BuildingClub(), 0, "s7"), -2);
    }

    private static void refusedVotes() {
        BuildingClub club = Check.club(2, 1, 3);
        club.leave(1);
        Check.feed(club, "s30");
        Check.due("one is not in", club.vote(7, 3), -1);
        Check.due("no such member", club.vote(8, 3), -1);
        Check.due("no such member, and one", club.vote(13, 3), -1);
        Check.due("bit 31", club.vote(0x80000001, 3), -1);
        Check.due("all bits", club.vote(-1, 3), -1);
        Check.due("not so many bytes", club.vote(5, 21), -1);
        Check.due("fewer than no bytes", club.vote(5, -1), -1);
        Check.due("the most bytes", club.vote(5, Integer.MAX_VALUE), -1);
        Check.due("the fewest bytes", club.vote(5, Integer.MIN_VALUE), -1);
        Check.due("refused ahead of a fault", club.vote(8, 20), -1);
        Check.due("the tape stays", club.count(7), 20);
        Check.due("the same text, carried", club.vote(5, 3), 0);
        Check.due("s", club.rule('s'), 30);
        Check.due("a byte of an empty tape", club.vote(5, 1), -1);
        club.leave(0);
        Check.feed(club, "s40");
        Check.due("number 0 is not in", club.vote(1, 3), -1);
        Check.due("number 0 is not in, with others", club.vote(5, 3), -1);
        Check.due("the last number is", club.vote(4, 3), 1);
        club.leave(2);
        Check.feed(club, "s50");
        Check.due("the last number is not in", club.vote(4, 3), -1);
        Check.due("nobody is in", club.vote(0, 3), -2);
    }

    private static void inForceFromNextWeek() {
        BuildingClub club = Check.club(1);
        club.pay(0, 1000);
        club.week(1);
        Check.vote(club, 1, "s30");
        Check.vote(club, 1, "s50");
        Check.due("rule tells the next week's", club.rule('s'), 50);
        Check.due("nothing is taken by a vote", club.look(0, 2), 980);
        club.week(1);
        Check.due("the last one of a week", club.look(0, 2), 930);
        club.week(1);
        Check.due("it stays in force", club.look(0, 2), 880);
    }

    private static void noSuchLetters() {
        BuildingClub club = Check.club(1);
        int[] wrong = {0, -1, 'S', 'x', 'a', ';', '0', 's' + 256, 's' - 256, 's' + 65536, 255, 256,
            Integer.MAX_VALUE, Integer.MIN_VALUE};
        for (int letter : wrong) {
            Check.due("rule(" + letter + ")", club.rule(letter), -1);
        }
    }
}
