/** RULES as a TEXT with its FAULTS, and promise 2: the tape that a TEXT comes from. */
public final class TextTest {
    private static final String LETTERS = "srfhgblq";
    private static final int[] LEAST = {1, 0, 0, 10, 1, 0, 0, 0};
    private static final int[] FIRST = {20, 10, 5, 600, 3, 0, 80, 4};
    private static final int[] MOST = {1000, 1000, 500, 9999, 5, 1, 100, 99};

    public static void main(String[] args) {
        bytesOfTheTape();
        fullTape();
        semicolonBetweenTwo();
        oneToFourDigits();
        noBlanks();
        rangeOfEachLetter();
        whatNoClauseTells();
        laterOneOfALetter();
        noSuchLetter();
        noLetterAtTheEnd();
        noDigit();
        fifthDigit();
        numberThatCantBe();
        askedWhenDigitsEnd();
        somethingElseBehindAClause();
        firstFromTheLeft();
        placeOfAFault();
        Check.end();
    }

    private static void carried(String text, char letter, int number) {
        BuildingClub club = Check.club(1);
        Check.due("vote for '" + text + "'", Check.vote(club, 1, text), 0);
        Check.due(letter + " of '" + text + "'", club.rule(letter), number);
    }

    private static void fault(String text, int answer) {
        BuildingClub club = Check.club(1);
        Check.due("vote for '" + text + "'", Check.vote(club, 1, text), answer);
        Check.due("the tape behind '" + text + "'", club.count(7), 0);
        Check.due("votes carried behind '" + text + "'", club.count(5), 0);
        for (int i = 0; i < FIRST.length; i++) {
            char letter = LETTERS.charAt(i);
            Check.due(letter + " behind '" + text + "'", club.rule(letter), FIRST[i]);
        }
    }

    private static void bytesOfTheTape() {
        Check.sentence("Twenty bytes come behind the tape, the highest of each int first: how many it has");
        BuildingClub club = Check.club(1);
        Check.due("feed", club.feed(0x7331323b, 0x7231333b, 0x6631343b, 0x68363135, 0x3b673034), 20);
        Check.due("bytes", club.count(7), 20);
        Check.due("vote for s12;r13;f14;h615;g04", club.vote(1, 20), 0);
        int[] want = {12, 13, 14, 615, 4};
        for (int i = 0; i < want.length; i++) {
            Check.due("" + LETTERS.charAt(i), club.rule(LETTERS.charAt(i)), want[i]);
        }
        Check.due("feed s10;s11;s12;s13;s14;", club.feed(0x7331303b, 0x7331313b, 0x7331323b, 0x7331333b, 0x7331343b), 20);
        Check.due("feed h987 behind it, negative ints behind that", club.feed(0x68393837, -1, 0x80000000, -2, 0xf3f3f3f3), 40);
        Check.due("vote for 24 bytes of two feeds", club.vote(1, 24), 1);
        Check.due("s", club.rule('s'), 14);
        Check.due("h", club.rule('h'), 987);
        Check.due("a new tape begins at its first byte", club.feed(0x73370000, 0, 0, 0, 0), 20);
        Check.due("vote for s7", club.vote(1, 2), 2);
        Check.due("s", club.rule('s'), 7);
    }

    private static void fullTape() {
        Check.sentence("NONE if that would be more than 60");
        BuildingClub club = Check.club(1);
        String text = "s11;".repeat(14) + "q012";
        Check.feed(club, text);
        Check.due("60 bytes", club.count(7), 60);
        Check.due("20 more", club.feed(0x73313b73, 0x313b7331, 0x3b73313b, 0x73313b73, 0x313b7331), -1);
        Check.due("still 60", club.count(7), 60);
        Check.due("20 more again", club.feed(0, 0, 0, 0, 0), -1);
        Check.due("all 60 bytes as they were", club.vote(1, 60), 0);
        Check.due("s", club.rule('s'), 11);
        Check.due("q", club.rule('q'), 12);
        Check.due("empty then, so that there is room", club.feed(0, 0, 0, 0, 0), 20);
        Check.due("40", club.feed(0, 0, 0, 0, 0), 40);
        Check.due("just 60", club.feed(0, 0, 0, 0, 0), 60);
        Check.due("more than 60", club.feed(0, 0, 0, 0, 0), -1);
        Check.due("feeds are no calls that were done", club.count(6), 2);
    }

    private static void semicolonBetweenTwo() {
        Check.sentence("CLAUSES with a ; (59) between two");
        carried("s33", 's', 33);
        carried("s33;r44", 'r', 44);
        carried("s1;r2;f3;h14;g5;b1;l7;q8", 'q', 8);
        fault("s33:r44", -503);
        fault("s33r44", -503);
        fault(";s33", -100);
        fault("s33;;r44", -104);
    }

    private static void oneToFourDigits() {
        Check.sentence("each a letter and a number of one to four digits");
        carried("s7", 's', 7);
        carried("s07", 's', 7);
        carried("s007", 's', 7);
        carried("s0007", 's', 7);
        carried("h9876", 'h', 9876);
        carried("r0", 'r', 0);
        carried("r0000", 'r', 0);
        carried("h1234;s0567;r89", 's', 567);
        carried("s1000", 's', 1000);
    }

    private static void noBlanks() {
        Check.sentence("no blanks");
        fault(" s20", -100);
        fault("s 20", -201);
        fault("s20 ", -503);
        fault("s2 0", -502);
        fault("s20; r1", -104);
        fault("s20;r1\n", -506);
    }

    private static void rangeOfEachLetter() {
        for (int i = 0; i < LEAST.length; i++) {
            char letter = LETTERS.charAt(i);
            Check.sentence("the numbers that " + letter + " can be, and what it is at first");
            Check.due(letter + " at first", new BuildingClub().rule(letter), FIRST[i]);
            carried(letter + "" + LEAST[i], letter, LEAST[i]);
            carried(letter + "" + MOST[i], letter, MOST[i]);
            if (LEAST[i] > 0) {
                fault(letter + "" + (LEAST[i] - 1), -401);
            }
            fault(letter + "" + (MOST[i] + 1), MOST[i] == 9999 ? -305 : -401);
        }
    }

    private static void whatNoClauseTells() {
        Check.sentence("What no CLAUSE tells is as at first");
        BuildingClub club = Check.club(1);
        Check.vote(club, 1, "s1;r2;f3;h14;g5;b1;l7;q8");
        int[] all = {1, 2, 3, 14, 5, 1, 7, 8};
        for (int i = 0; i < all.length; i++) {
            Check.due("told: " + LETTERS.charAt(i), club.rule(LETTERS.charAt(i)), all[i]);
        }
        for (int told = 0; told < all.length; told++) {
            Check.vote(club, 1, LETTERS.charAt(told) + "" + all[told]);
            for (int i = 0; i < all.length; i++) {
                int want = i == told ? all[i] : FIRST[i];
                Check.due("only " + LETTERS.charAt(told) + " told: " + LETTERS.charAt(i),
                    club.rule(LETTERS.charAt(i)), want);
            }
        }
    }

    private static void laterOneOfALetter() {
        Check.sentence("the later one of a letter counts");
        carried("s30;s40", 's', 40);
        carried("s40;s30", 's', 30);
        carried("h700;s30;h800;s1;h900", 'h', 900);
        carried("b1;b0", 'b', 0);
        fault("s0;s40", -401);
    }

    private static void noSuchLetter() {
        Check.sentence("1 no such letter there");
        fault("S20", -100);
        fault("x20", -100);
        fault("a", -100);
        fault("20", -100);
        fault(";", -100);
        fault("\0", -100);
        fault("\u00f320", -100);
        fault("\u00ff", -100);
        fault("s20;x1", -104);
        fault("s20;;", -104);
        fault("s20;20", -104);
        fault("s1;r1;f1;R1", -109);
    }

    private static void noLetterAtTheEnd() {
        Check.sentence("1 no such letter there (the end, too)");
        fault("", -100);
        fault("s20;", -104);
        fault("s1;r1;", -106);
        fault("s11;".repeat(15), -160);
    }

    private static void noDigit() {
        Check.sentence("2 no digit there");
        fault("s", -201);
        fault("s;", -201);
        fault("s-1", -201);
        fault("ss", -201);
        fault("s/", -201);
        fault("s:", -201);
        fault("s\u00b2", -201);
        fault("s\0", -201);
        fault("s20;r", -205);
        fault("s20;r;f1", -205);
    }

    private static void fifthDigit() {
        Check.sentence("3 a fifth digit, at it");
        fault("s12345", -305);
        fault("s00020", -305);
        fault("s00000", -305);
        fault("s123456", -305);
        fault("h99990", -305);
        fault("s1;h99999", -308);
        fault("s1;h00010;r", -308);
    }

    private static void numberThatCantBe() {
        Check.sentence("4 a number that it can't be, at its first digit");
        fault("s0", -401);
        fault("s00", -401);
        fault("s0000", -401);
        fault("s1001", -401);
        fault("s9999", -401);
        fault("h0009", -401);
        fault("q0100", -401);
        fault("b2", -401);
        fault("s2;h9", -404);
        fault("s2;h10;g6", -408);
    }

    private static void askedWhenDigitsEnd() {
        Check.sentence("4 a number that it can't be, at its first digit (asked when its digits end)");
        fault("s99999", -305);
        fault("b20000", -305);
        fault("g60001", -305);
        fault("s0x", -401);
        fault("s0;", -401);
        fault("s2000;x", -401);
        fault("s9999x", -401);
        carried("g0005", 'g', 5);
        carried("b01", 'b', 1);
    }

    private static void somethingElseBehindAClause() {
        Check.sentence("5 something else than ; or the end behind a CLAUSE");
        fault("s20,r1", -503);
        fault("s20r1", -503);
        fault("s20\0", -503);
        fault("s1/", -502);
        fault("s1:", -502);
        fault("s1\u00bb", -502);
        fault("s1000x", -505);
        fault("s1;r1:f1", -505);
        fault("s1;r1s", -505);
    }

    private static void firstFromTheLeft() {
        Check.sentence("FAULTS, the first from the left");
        fault("s20;r1x;s0", -506);
        fault("s0;x", -401);
        fault("x;s0", -100);
        fault("s;x;s0;s12345", -201);
        fault("b2;s", -401);
        fault("s12345;b2", -305);
        fault("s1;q100 ;x", -404);
    }

    private static void placeOfAFault() {
        Check.sentence("-100 times a FAULT's number, less its place");
        String before = "s11;".repeat(14);
        fault(before + "x123", -156);
        fault(before + "sx12", -257);
        fault(before + "q100", -457);
        fault(before + "q1 2", -558);
        fault(before.substring(8) + "s11111", -353);
        fault("s11;".repeat(14) + "s11;", -160);
        fault("s11;".repeat(14) + "s1;q", -260);
    }
}
