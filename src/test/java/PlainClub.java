import java.util.ArrayList;
import java.util.List;
import java.util.Map;
import java.util.TreeMap;

/**
 * The document once more, as plainly as can be and without a thought of speed or room: all that
 * was done is a list, and each answer does the whole list anew. The tests compare it with the class.
 */
final class PlainClub {
    private record Deed(char kind, int a, int b, Map<Character, Integer> rules) {
    }

    private static final Map<Character, int[]> LETTERS = Map.of(
        's', new int[] {1, 1000, 20}, 'r', new int[] {0, 1000, 10}, 'f', new int[] {0, 500, 5},
        'h', new int[] {10, 9999, 600}, 'g', new int[] {1, 5, 3}, 'b', new int[] {0, 1, 0},
        'l', new int[] {0, 100, 80}, 'q', new int[] {0, 99, 4});

    private static final class Person {
        long shares;
        long credit;
        long arrears;
        long paid;
        long bid;
        long due;
        long got;
        long comes;
        boolean gone;
        boolean house;
        boolean seen;
        long stages;
        long stagesPaid;
        long heldAtDraw;
        long held;
        long lacks;
        long drawn;
    }

    private static final class State {
        final List<Person> all = new ArrayList<>();
        final List<Person> left = new ArrayList<>();
        Map<Character, Integer> now = first();
        Map<Character, Integer> next = first();
        long cash;
        long builder;
        long fines;
        long leavers;
        long in;
        int week;
        int lot;
    }

    private final List<Deed> deeds = new ArrayList<>();
    private final StringBuilder tape = new StringBuilder();

    private static Map<Character, Integer> first() {
        Map<Character, Integer> rules = new TreeMap<>();
        LETTERS.forEach((letter, range) -> rules.put(letter, range[2]));
        return rules;
    }

    int feed(int... five) {
        if (tape.length() + 20 > 60) {
            return -1;
        }
        for (int each : five) {
            for (int i = 3; i >= 0; i--) {
                tape.append((char) (each >> 8 * i & 0xff));
            }
        }
        return tape.length();
    }

    int vote(int members, int n) {
        State state = run(-1);
        if (deeds.size() >= 400 || n < 0 || n > tape.length() || !allIn(state, members)) {
            return -1;
        }
        String text = tape.substring(0, n);
        tape.setLength(0);
        Map<Character, Integer> rules = first();
        int fault = parse(text, rules);
        if (fault != 0) {
            return fault;
        }
        Deed deed = new Deed('v', members, 0, rules);
        if (!apply(state, deed)) {
            return -2;
        }
        deeds.add(deed);
        return votes() - 1;
    }

    private static boolean allIn(State state, int members) {
        for (int bit = 0; bit < 32; bit++) {
            boolean has = (members >> bit & 1) != 0;
            if (has && (bit >= state.all.size() || state.all.get(bit).gone)) {
                return false;
            }
        }
        return true;
    }

    private static int parse(String text, Map<Character, Integer> rules) {
        int at = 0;
        while (true) {
            if (at == text.length() || !LETTERS.containsKey(text.charAt(at))) {
                return -100 - at;
            }
            char letter = text.charAt(at++);
            int start = at;
            while (at < text.length() && "0123456789".indexOf(text.charAt(at)) >= 0) {
                if (at - start >= 4) {
                    return -300 - at;
                }
                at++;
            }
            if (start == at) {
                return -200 - at;
            }
            int value = Integer.parseInt(text.substring(start, at));
            if (value < LETTERS.get(letter)[0] || value > LETTERS.get(letter)[1]) {
                return -400 - start;
            }
            rules.put(letter, value);
            if (at == text.length()) {
                return 0;
            }
            if (text.charAt(at) != ';') {
                return -500 - at;
            }
            at++;
        }
    }

    /** A deed of a kind: m member, p pay, l lot, b bid, s seen, g leave, f fail, w week. */
    boolean deed(char kind, int a, int b) {
        Deed deed = new Deed(kind, a, b, null);
        if (deeds.size() >= 400 || !apply(run(-1), deed)) {
            return false;
        }
        deeds.add(deed);
        return true;
    }

    private int votes() {
        return (int) deeds.stream().filter(deed -> deed.kind == 'v').count();
    }

    private State run(int without) {
        State state = new State();
        int vote = 0;
        for (Deed deed : deeds) {
            boolean leftOut = deed.kind == 'v' && vote++ == without;
            if (!leftOut) {
                apply(state, deed);
            }
        }
        return state;
    }

    private static boolean apply(State state, Deed deed) {
        if (deed.kind == 'm') {
            return enrol(state, deed.a);
        }
        if (deed.kind == 'w') {
            boolean can = deed.a >= 1 && deed.a <= 100;
            for (int i = 0; can && i < deed.a; i++) {
                week(state);
            }
            return can;
        }
        if (deed.kind == 'l') {
            boolean can = deed.a >= 0 && deed.a <= 10000;
            state.lot = can ? deed.a : state.lot;
            return can;
        }
        if (deed.kind == 'v') {
            return carry(state, deed);
        }
        if (deed.a < 0 || deed.a >= state.all.size()) {
            return false;
        }
        return applyToPerson(state, state.all.get(deed.a), deed);
    }

    private static boolean enrol(State state, int shares) {
        if (shares < 1 || shares > 5 || state.all.size() == 12) {
            return false;
        }
        Person person = new Person();
        person.shares = shares;
        state.all.add(person);
        return true;
    }

    private static boolean carry(State state, Deed deed) {
        if (!allIn(state, deed.a)) {
            return false;
        }
        double ayes = 0;
        double all = 0;
        for (int m = 0; m < state.all.size(); m++) {
            Person person = state.all.get(m);
            all += person.gone ? 0 : person.shares;
            ayes += (deed.a >> m & 1) != 0 ? person.shares : 0;
        }
        if (ayes <= all / 2) {
            return false;
        }
        state.next = deed.rules;
        return true;
    }

    private static boolean applyToPerson(State state, Person person, Deed deed) {
        boolean work = person.house && person.stagesPaid != person.stages && person.lacks == 0;
        switch (deed.kind) {
            case 'p':
                if (person.gone || deed.b < 1 || deed.b > 100000) {
                    return false;
                }
                person.credit += deed.b;
                state.in += deed.b;
                return true;
            case 'b':
                if (person.gone || deed.b < 0 || deed.b > 5000) {
                    return false;
                }
                person.bid = deed.b;
                return true;
            case 's':
                if (!work || person.seen) {
                    return false;
                }
                person.seen = true;
                return true;
            case 'g':
                if (person.gone || person.house) {
                    return false;
                }
                person.due = person.paid * state.now.get('l') / 100 + person.credit;
                person.comes = state.week + state.now.get('q');
                state.cash += person.credit;
                person.credit = person.arrears = person.bid = 0;
                person.gone = true;
                state.left.add(person);
                return true;
            default:
                if (!work || person.stagesPaid == 0) {
                    return false;
                }
                person.stagesPaid--;
                person.seen = false;
                person.lacks = person.heldAtDraw / person.stages;
                fill(state, person);
                return true;
        }
    }

    private static void fill(State state, Person person) {
        if (state.cash >= person.lacks) {
            state.cash -= person.lacks;
            person.held += person.lacks;
            person.lacks = 0;
        }
    }

    private static long owed(Person person, Map<Character, Integer> rules) {
        return person.shares * rules.get('s') + (person.house ? person.shares * rules.get('r') : 0)
            + person.arrears;
    }

    private static void week(State state) {
        state.week++;
        state.now = state.next;
        for (Person person : state.all) {
            long owed = owed(person, state.now);
            if (person.gone) {
                continue;
            }
            if (person.credit < owed) {
                long fine = person.shares * state.now.get('f');
                state.fines += fine;
                person.arrears = owed + fine;
            } else {
                person.credit -= owed;
                person.paid += owed;
                state.cash += owed;
                person.arrears = 0;
            }
        }
        List<Person> come = state.left.stream().filter(one -> one.comes <= state.week).toList();
        for (Person person : come) {
            if (state.cash < person.due) {
                break;
            }
            state.cash -= person.due;
            state.leavers += person.due;
            person.got += person.due;
            person.due = 0;
        }
        for (Person person : state.all) {
            if (person.house && person.seen && person.stagesPaid < person.stages) {
                boolean last = person.stagesPaid == person.stages - 1;
                long pence = last ? person.held : person.heldAtDraw / person.stages;
                person.held -= pence;
                state.builder += pence;
                person.stagesPaid++;
                person.seen = false;
            }
        }
        if (state.cash >= state.now.get('h')) {
            draw(state);
        }
        state.all.forEach(person -> fill(state, person));
        state.lot = 0;
    }

    private static void draw(State state) {
        long h = state.now.get('h');
        List<Person> tickets = new ArrayList<>();
        Person best = null;
        for (Person person : state.all) {
            if (!person.gone && !person.house && person.arrears == 0) {
                for (int i = 0; i < person.shares; i++) {
                    tickets.add(person);
                }
                boolean greater = best == null || Math.min(person.bid, h / 2) > Math.min(best.bid, h / 2);
                best = greater ? person : best;
            }
        }
        if (tickets.isEmpty()) {
            return;
        }
        boolean bids = state.now.get('b') == 1;
        Person winner = bids ? best : tickets.get(state.lot % tickets.size());
        long bid = bids ? Math.min(winner.bid, h / 2) : 0;
        winner.bid = 0;
        winner.house = true;
        winner.stages = state.now.get('g');
        winner.drawn = state.week;
        winner.held = winner.heldAtDraw = h - bid;
        state.cash -= h;
        List<Person> in = state.all.stream().filter(person -> !person.gone).toList();
        long shares = in.stream().mapToLong(person -> person.shares).sum();
        state.cash += bid;
        for (Person person : in) {
            person.credit += bid * person.shares / shares;
            state.cash -= bid * person.shares / shares;
        }
    }

    private static int end(State state) {
        int now = state.week;
        while (state.all.stream().anyMatch(person -> !person.gone && !person.house)) {
            if (state.week == now + 2000) {
                return -1;
            }
            state.lot = 0;
            for (Person person : state.all) {
                person.credit += person.gone ? 0 : owed(person, state.next);
                person.bid = 0;
                person.seen = person.house && person.lacks == 0;
            }
            week(state);
        }
        return state.week;
    }

    int end() {
        return end(run(-1));
    }

    int rule(int letter) {
        Integer value = letter < 0 || letter > 255 ? null : run(-1).next.get((char) letter);
        return value == null ? -1 : value;
    }

    long beside(int k, int what) {
        if (k < 0 || k >= votes()) {
            return -1;
        }
        State state = run(k);
        if (what >= 10 && what - 10 < state.all.size()) {
            return state.all.get(what - 10).credit;
        }
        if (what == 0) {
            return state.cash;
        }
        if (what == 1) {
            return state.all.stream().filter(person -> person.house).count();
        }
        return what == 2 ? end(state) : -1;
    }

    long look(int m, int what) {
        State state = run(-1);
        if (m < 0 || m >= state.all.size() || what < 0 || what > 12) {
            return -1;
        }
        Person one = state.all.get(m);
        long[] told = {one.shares, one.gone ? 0 : 1, one.credit, one.arrears, one.paid,
            one.house ? one.stagesPaid : -1, one.held, one.lacks, one.house ? one.drawn : -1, one.bid,
            one.due, one.got, one.house ? one.stages : -1};
        return told[what];
    }

    long club(int what) {
        State state = run(-1);
        long credits = state.all.stream().mapToLong(person -> person.credit).sum();
        long held = state.all.stream().mapToLong(person -> person.held).sum();
        long due = state.all.stream().mapToLong(person -> person.due).sum();
        long[] told = {state.cash, state.builder, state.fines, credits, held, due, state.leavers, state.in};
        return what < 0 || what > 7 ? -1 : told[what];
    }

    long count(int what) {
        State state = run(-1);
        long in = state.all.stream().filter(person -> !person.gone).count();
        long houses = state.all.stream().filter(person -> person.house).count();
        long done = state.all.stream().filter(one -> one.house && one.stages == one.stagesPaid).count();
        long[] told = {state.all.size(), in, state.week, houses, done, votes(), deeds.size(), tape.length()};
        return what < 0 || what > 7 ? -1 : told[what];
    }
}
