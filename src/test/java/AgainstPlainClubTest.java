import java.util.Random;

/** All promises at once: runs of calls, made from fixed seeds, answered as PlainClub answers them. */
public final class AgainstPlainClubTest {
    private static final int RUNS = 500;
    /** The document promises nothing beyond so many calls of one object. */
    private static final int MOST_CALLS = 512;
    private static final int LOOKS = 14 * 15;
    private static final int CLUBS = 10;
    private static final int COUNTS = 10;
    private static final int BESIDES = 6 * 25;
    private static final int[] ODD = {Integer.MIN_VALUE, -100, -2, -1, 0, 12, 13, 31, 32, 255, 5001,
        10001, 100001, Integer.MAX_VALUE};

    private final Random random;
    private final BuildingClub club = new BuildingClub();
    private final PlainClub plain = new PlainClub();
    private final String run;
    private final boolean manyWeeks;
    private int calls;

    private AgainstPlainClubTest(int seed) {
        random = new Random(seed);
        run = "run " + seed + ": ";
        manyWeeks = seed % 8 == 0;
    }

    public static void main(String[] args) {
        for (int seed = 0; seed < RUNS; seed++) {
            AgainstPlainClubTest test = new AgainstPlainClubTest(seed);
            test.callsOfOneObject();
        }
        Check.end();
    }

    private void callsOfOneObject() {
        int members = 1 + random.nextInt(12);
        for (int m = 0; m < members; m++) {
            joins(1 + random.nextInt(5));
        }
        boolean many = random.nextInt(10) == 0;
        int mostForChanges = many ? MOST_CALLS - 30 : 150;
        while (calls < mostForChanges) {
            change();
            if (random.nextInt(many ? 50 : 12) == 0) {
                askSome();
            }
        }
        askTheRest();
    }

    private void due(String call, long got, long want) {
        calls++;
        Check.due(run + call, got, want);
    }

    private int some(int bound) {
        return random.nextInt(40) == 0 ? ODD[random.nextInt(ODD.length)] : random.nextInt(bound);
    }

    private int someMember() {
        return some((int) plain.count(0) + (random.nextInt(20) == 0 ? 1 : 0));
    }

    private void deed(String name, char kind, int a, int b, boolean got) {
        due(name + "(" + a + ", " + b + ")", got ? 1 : 0, plain.deed(kind, a, b) ? 1 : 0);
    }

    private void joins(int shares) {
        long want = plain.deed('m', shares, 0) ? plain.count(0) - 1 : -1;
        due("member(" + shares + ")", club.member(shares), want);
    }

    private void passes(int n) {
        long want = plain.deed('w', n, 0) ? plain.count(2) : -1;
        due("week(" + n + ")", club.week(n), want);
    }

    private void change() {
        int m = someMember();
        switch (random.nextInt(17)) {
            case 0: joins(random.nextInt(3) == 0 ? some(7) : 9); break;
            case 1: votes(); break;
            case 2: case 3: case 4: pays(m); break;
            case 5: deedLot(); break;
            case 6: case 7: bids(m); break;
            case 8: case 9: case 10: deed("seen", 's', m, 0, club.seen(m)); break;
            case 11: leaves(m); break;
            case 12: case 13: deed("fail", 'f', m, 0, club.fail(m)); break;
            default: passes(random.nextInt(20) == 0 ? some(manyWeeks ? 102 : 12) : 1); break;
        }
    }

    private void pays(int m) {
        int pence = some(random.nextBoolean() ? 120 : 3000);
        deed("pay", 'p', m, pence, club.pay(m, pence));
    }

    private void deedLot() {
        int n = some(10001);
        deed("lot", 'l', n, 0, club.lot(n));
    }

    private void bids(int m) {
        int pence = some(random.nextInt(4) > 0 ? 70 : 5001);
        deed("bid", 'b', m, pence, club.bid(m, pence));
    }

    private void leaves(int m) {
        if (random.nextInt(3) == 0) {
            deed("leave", 'g', m, 0, club.leave(m));
        }
    }

    private void votes() {
        String text = text();
        int[] five = new int[5];
        for (int from = 0; from == 0 || from < text.length(); from += 20) {
            for (int i = 0; i < 20; i++) {
                int letter = from + i < text.length() ? text.charAt(from + i) : random.nextInt(256);
                five[i / 4] = five[i / 4] << 8 | letter;
            }
            due("feed", club.feed(five[0], five[1], five[2], five[3], five[4]), plain.feed(five));
        }
        int set = 0;
        for (int m = 0; m < plain.count(0); m++) {
            set |= plain.look(m, 1) == 1 && random.nextInt(5) > 0 ? 1 << m : 0;
        }
        set = random.nextInt(30) == 0 ? random.nextInt() : set;
        int n = random.nextInt(20) == 0 ? some(70) : text.length();
        due("vote(" + set + ", " + n + ") for " + text, club.vote(set, n), plain.vote(set, n));
    }

    private String text() {
        StringBuilder text = new StringBuilder();
        int clauses = 1 + random.nextInt(7);
        for (int i = 0; i < clauses; i++) {
            text.append(i == 0 ? "" : ";").append(clause());
        }
        if (random.nextInt(8) == 0) {
            text.setCharAt(random.nextInt(text.length()), "srx;019 \u00f3:/".charAt(random.nextInt(11)));
        }
        return text.length() > 60 ? text.substring(0, 60) : text.toString();
    }

    private String clause() {
        switch (random.nextInt(11)) {
            case 0: return "s" + (1 + random.nextInt(40));
            case 1: return "r" + random.nextInt(30);
            case 2: return "f" + random.nextInt(9);
            case 3: return "h" + (10 + random.nextInt(random.nextInt(9) == 0 ? 9990 : 200));
            case 4: return "g" + (1 + random.nextInt(5));
            case 5: return "b" + random.nextInt(2);
            case 6: return "l" + random.nextInt(101);
            case 7: return "q" + random.nextInt(7);
            case 8: return "b1";
            default: return "h" + (10 + random.nextInt(90));
        }
    }

    private void askSome() {
        int m = someMember();
        int what = some(14);
        due("look(" + m + ", " + what + ")", club.look(m, what), plain.look(m, what));
        int letter = random.nextBoolean() ? "srfhgblq".charAt(random.nextInt(8)) : some(300);
        due("rule(" + letter + ")", club.rule(letter), plain.rule(letter));
        due("end()", club.end(), plain.end());
        for (int i = 0; i < 3; i++) {
            int k = some((int) plain.count(5) + 1);
            int of = some(24);
            due("beside(" + k + ", " + of + ")", club.beside(k, of), plain.beside(k, of));
        }
    }

    /** As many of all questions as the object has calls left, from one of them on. */
    private void askTheRest() {
        due("end()", club.end(), plain.end());
        int all = LOOKS + CLUBS + COUNTS + BESIDES;
        int from = random.nextInt(all);
        for (int i = 0; i < all && calls < MOST_CALLS; i++) {
            ask((from + i) % all);
        }
    }

    private void ask(int question) {
        int q = question;
        if (q < LOOKS) {
            int m = q / 15 - 1;
            int what = q % 15 - 1;
            due("look(" + m + ", " + what + ")", club.look(m, what), plain.look(m, what));
            return;
        }
        q -= LOOKS;
        if (q < CLUBS) {
            due("club(" + (q - 1) + ")", club.club(q - 1), plain.club(q - 1));
            return;
        }
        q -= CLUBS;
        if (q < COUNTS) {
            due("count(" + (q - 1) + ")", club.count(q - 1), plain.count(q - 1));
            return;
        }
        q -= COUNTS;
        int k = q / 25;
        int what = q % 25 - 1;
        due("beside(" + k + ", " + what + ")", club.beside(k, what), plain.beside(k, what));
    }
}
