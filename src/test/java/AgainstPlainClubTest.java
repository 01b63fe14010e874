import java.util.Random;

/** All promises at once: runs of calls, made from fixed seeds, answered as PlainClub answers them. */
public final class AgainstPlainClubTest {
    private static final int RUNS = 400;
    private static final int[] ODD = {Integer.MIN_VALUE, -100, -2, -1, 0, 12, 13, 31, 32, 255, 5001,
        10001, 100001, Integer.MAX_VALUE};

    private final Random random;
    private final BuildingClub club = new BuildingClub();
    private final PlainClub plain = new PlainClub();
    private final String run;
    private final boolean manyWeeks;

    private AgainstPlainClubTest(int seed) {
        random = new Random(seed);
        run = "run " + seed + ": ";
        manyWeeks = seed % 8 == 0;
    }

    public static void main(String[] args) {
        for (int seed = 0; seed < RUNS; seed++) {
            AgainstPlainClubTest test = new AgainstPlainClubTest(seed);
            test.callsOfOneObject();
        }
        Check.end();
    }

    private void callsOfOneObject() {
        int members = 1 + random.nextInt(12);
        for (int m = 0; m < members; m++) {
            joins(1 + random.nextInt(5));
        }
        int calls = random.nextInt(10) == 0 ? 480 : 60;
        for (int i = 0; i < calls; i++) {
            change();
            if (random.nextInt(12) == 0) {
                ask();
            }
        }
        ask();
        askAll();
    }

    private int some(int bound) {
        return random.nextInt(40) == 0 ? ODD[random.nextInt(ODD.length)] : random.nextInt(bound);
    }

    private int someMember() {
        return some((int) plain.count(0) + (random.nextInt(20) == 0 ? 1 : 0));
    }

    private void deed(String name, char kind, int a, int b, boolean got) {
        Check.due(run + name + "(" + a + ", " + b + ")", got, plain.deed(kind, a, b));
    }

    private void joins(int shares) {
        long want = plain.deed('m', shares, 0) ? plain.count(0) - 1 : -1;
        Check.due(run + "member(" + shares + ")", club.member(shares), want);
    }

    private void passes(int n) {
        long want = plain.deed('w', n, 0) ? plain.count(2) : -1;
        Check.due(run + "week(" + n + ")", club.week(n), want);
    }

    private void change() {
        int m = someMember();
        switch (random.nextInt(16)) {
            case 0: joins(random.nextInt(3) == 0 ? some(7) : 9); break;
            case 1: votes(); break;
            case 2: case 3: case 4: pays(m); break;
            case 5: deedLot(); break;
            case 6: bids(m); break;
            case 7: case 8: case 9: deed("seen", 's', m, 0, club.seen(m)); break;
            case 10: leaves(m); break;
            case 11: case 12: deed("fail", 'f', m, 0, club.fail(m)); break;
            default: passes(random.nextInt(20) == 0 ? some(manyWeeks ? 102 : 12) : 1); break;
        }
    }

    private void pays(int m) {
        int pence = some(random.nextBoolean() ? 120 : 3000);
        deed("pay", 'p', m, pence, club.pay(m, pence));
    }

    private void deedLot() {
        int n = some(10001);
        deed("lot", 'l', n, 0, club.lot(n));
    }

    private void bids(int m) {
        int pence = some(random.nextBoolean() ? 60 : 5001);
        deed("bid", 'b', m, pence, club.bid(m, pence));
    }

    private void leaves(int m) {
        if (random.nextInt(3) == 0) {
            deed("leave", 'g', m, 0, club.leave(m));
        }
    }

    private void votes() {
        String text = text();
        int[] five = new int[5];
        for (int from = 0; from == 0 || from < text.length(); from += 20) {
            for (int i = 0; i < 20; i++) {
                int letter = from + i < text.length() ? text.charAt(from + i) : random.nextInt(256);
                five[i / 4] = five[i / 4] << 8 | letter;
            }
            Check.due(run + "feed", club.feed(five[0], five[1], five[2], five[3], five[4]), plain.feed(five));
        }
        int set = 0;
        for (int m = 0; m < plain.count(0); m++) {
            set |= plain.look(m, 1) == 1 && random.nextInt(5) > 0 ? 1 << m : 0;
        }
        set = random.nextInt(30) == 0 ? random.nextInt() : set;
        int n = random.nextInt(20) == 0 ? some(70) : text.length();
        Check.due(run + "vote(" + set + ", " + n + ") for " + text, club.vote(set, n), plain.vote(set, n));
    }

    private String text() {
        StringBuilder text = new StringBuilder();
        int clauses = 1 + random.nextInt(7);
        for (int i = 0; i < clauses; i++) {
            text.append(i == 0 ? "" : ";").append(clause());
        }
        if (random.nextInt(8) == 0) {
            text.setCharAt(random.nextInt(text.length()), "srx;019 \u00f3:/".charAt(random.nextInt(11)));
        }
        return text.length() > 60 ? text.substring(0, 60) : text.toString();
    }

    private String clause() {
        switch (random.nextInt(9)) {
            case 0: return "s" + (1 + random.nextInt(40));
            case 1: return "r" + random.nextInt(30);
            case 2: return "f" + random.nextInt(9);
            case 3: return "h" + (10 + random.nextInt(random.nextInt(9) == 0 ? 9990 : 200));
            case 4: return "g" + (1 + random.nextInt(5));
            case 5: return "b" + random.nextInt(2);
            case 6: return "l" + random.nextInt(101);
            case 7: return "q" + random.nextInt(7);
            default: return "h" + (10 + random.nextInt(90));
        }
    }

    private void ask() {
        int m = someMember();
        int what = some(14);
        Check.due(run + "look(" + m + ", " + what + ")", club.look(m, what), plain.look(m, what));
        int letter = random.nextBoolean() ? "srfhgblq".charAt(random.nextInt(8)) : some(300);
        Check.due(run + "rule(" + letter + ")", club.rule(letter), plain.rule(letter));
        Check.due(run + "end()", club.end(), plain.end());
        for (int i = 0; i < 3; i++) {
            int k = some((int) plain.count(5) + 1);
            int of = some(24);
            Check.due(run + "beside(" + k + ", " + of + ")", club.beside(k, of), plain.beside(k, of));
        }
        Check.duePennies(run, club);
    }

    private void askAll() {
        for (int m = -1; m <= 12; m++) {
            for (int what = -1; what <= 13; what++) {
                Check.due(run + "look(" + m + ", " + what + ")", club.look(m, what), plain.look(m, what));
            }
        }
        for (int what = -1; what <= 8; what++) {
            Check.due(run + "club(" + what + ")", club.club(what), plain.club(what));
            Check.due(run + "count(" + what + ")", club.count(what), plain.count(what));
        }
        for (int k = 0; k < plain.count(5) && k < 6; k++) {
            for (int what = 0; what <= 22; what++) {
                Check.due(run + "beside(" + k + ", " + what + ")", club.beside(k, what), plain.beside(k, what));
            }
        }
    }
}
