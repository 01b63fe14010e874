import java.nio.charset.StandardCharsets;

/**
 * Every call with every edge of every range, in clubs that stand in different ways: no call throws,
 * and each answers as PlainClub does. What a call changed shows in the weeks behind it.
 */
public final class EdgeNumbersTest {
    private static final int[] EDGES = {Integer.MIN_VALUE, Integer.MIN_VALUE + 1, Integer.MIN_VALUE + 9,
        Integer.MIN_VALUE + 10, Integer.MIN_VALUE + 12, -100001, -256, -141, -100, -13, -12, -10, -2, -1, 0, 1, 2,
        3, 4, 5, 6, 7, 8, 9, 10, 11, 12, 13, 14, 19, 20, 21, 22, 23, 31, 32, 33, 59, 60, 61, 99, 100, 101, 115,
        255, 256, 371, 400, 4095, 4096, 5000, 5001, 9999, 10000, 10001, 99999, 100000, 100001, 65651,
        Integer.MAX_VALUE - 1, Integer.MAX_VALUE};
    private static final String[] CLUBS = {
        "",
        "m2",
        "m2 m1 m3 v7:h60;s15;q1 p0:90 p1:50 p2:200 g1 b2:30 l3 t:s33;r7",
        "m2 m1 m1 v7:h60;s20;b1;g3;q3;l75 p0:400 p1:20 p2:500 b0:30 w1 s0 w1 b2:12 s0 v7:h75;s21 t:g2;h80",
        "m1 m1 v3:h100;g2;s50;r0;f0 p0:50 p1:50 w1 s0 w1 f0 t:f9",
        "m1 m1 m1 m1 m1 m1 m1 m1 m1 m1 m1 m5 v4095:h200;b0 p11:900 p0:300 w2 g5 t:h40;h41;h42;h43;h44;h45;h46;h47;h48;h49;h50;h51;h52;h53;h54"};
    private static final int MOST_CALLS = 512;

    private final String script;
    private BuildingClub club;
    private PlainClub plain;
    private int calls;

    private EdgeNumbersTest(String script) {
        this.script = script;
    }

    public static void main(String[] args) {
        for (String script : CLUBS) {
            EdgeNumbersTest test = new EdgeNumbersTest(script);
            test.changes();
            test.questions();
        }
        Check.end();
    }

    private void begin() {
        club = new BuildingClub();
        plain = new PlainClub();
        calls = 0;
        for (String step : script.isEmpty() ? new String[0] : script.split(" ")) {
            step(step.charAt(0), step.substring(1));
        }
    }

    private void step(char kind, String rest) {
        int colon = rest.indexOf(':');
        String text = rest.substring(colon + 1);
        int a = colon == 0 ? 0 : Integer.parseInt(colon < 0 ? rest : rest.substring(0, colon));
        if (kind == 't' || kind == 'v') {
            feed(text);
            if (kind == 'v') {
                due("vote for " + text, club.vote(a, text.length()), plain.vote(a, text.length()));
            }
        } else {
            change(kind, a, colon < 0 ? 0 : Integer.parseInt(text));
        }
    }

    private void feed(String text) {
        byte[] bytes = text.getBytes(StandardCharsets.ISO_8859_1);
        for (int from = 0; from < bytes.length; from += 20) {
            int[] five = new int[5];
            for (int i = 0; i < 20; i++) {
                five[i / 4] = five[i / 4] << 8 | (from + i < bytes.length ? bytes[from + i] & 255 : 0);
            }
            due("feed", club.feed(five[0], five[1], five[2], five[3], five[4]), plain.feed(five));
        }
    }

    private void due(String call, long got, long want) {
        calls++;
        Check.due("'" + script + "', " + call, got, want);
    }

    private void change(char kind, int a, int b) {
        long done = plain.deed(kind, a, b) ? 1 : 0;
        String call = kind + "(" + a + ", " + b + ")";
        switch (kind) {
            case 'm': due(call, club.member(a), done == 1 ? plain.count(0) - 1 : -1); break;
            case 'p': due(call, club.pay(a, b) ? 1 : 0, done); break;
            case 'l': due(call, club.lot(a) ? 1 : 0, done); break;
            case 'b': due(call, club.bid(a, b) ? 1 : 0, done); break;
            case 's': due(call, club.seen(a) ? 1 : 0, done); break;
            case 'g': due(call, club.leave(a) ? 1 : 0, done); break;
            case 'f': due(call, club.fail(a) ? 1 : 0, done); break;
            default: due(call, club.week(a), done == 1 ? plain.count(2) : -1); break;
        }
    }

    private void changes() {
        for (int a : EDGES) {
            for (char kind : "mlsgfw".toCharArray()) {
                begin();
                change(kind, a, 0);
                compareThenAndLater();
            }
            begin();
            due("feed of " + a, club.feed(a, a, a, a, a), plain.feed(a, a, a, a, a));
            compareThenAndLater();
            for (int b : EDGES) {
                begin();
                change('p', a, b);
                change('b', a, b);
                due("vote(" + a + ", " + b + ")", club.vote(a, b), plain.vote(a, b));
                compareThenAndLater();
            }
        }
    }

    private void compareThenAndLater() {
        compare();
        due("vote(1, 3)", club.vote(1, 3), plain.vote(1, 3));
        change('w', 2, 0);
        compare();
    }

    private void compare() {
        for (int what = 0; what <= 7; what++) {
            due("club(" + what + ")", club.club(what), plain.club(what));
            due("count(" + what + ")", club.count(what), plain.count(what));
        }
        for (int what = 1; what <= 9; what++) {
            due("look(0, " + what + ")", club.look(0, what), plain.look(0, what));
        }
    }

    private void questions() {
        begin();
        due("end()", club.end(), plain.end());
        for (int a : EDGES) {
            due("club(" + a + ")", club.club(a), plain.club(a));
            due("rule(" + a + ")", club.rule(a), plain.rule(a));
            due("count(" + a + ")", club.count(a), plain.count(a));
        }
        for (int a : EDGES) {
            for (int b : EDGES) {
                if (calls + 2 > MOST_CALLS) {
                    begin();
                }
                due("look(" + a + ", " + b + ")", club.look(a, b), plain.look(a, b));
                due("beside(" + a + ", " + b + ")", club.beside(a, b), plain.beside(a, b));
            }
        }
    }
}
