/**
 * A building club: members pay for shares week by week by rules that they vote as texts, houses
 * are drawn by lot or bid for and paid by stages. The numbered promises stand in the document.
 */
public final class BuildingClub {
    public static final int NONE = -1;

    private static final int NOT_CARRIED = -2;

    private final Ledger ledger = new Ledger();
    private final History history = new History();
    private final Tape tape = new Tape();
    private final TextReader reader = new TextReader();
    private final Replay replay = new Replay();
    private final Outlook outlook = new Outlook();

    public BuildingClub() {
    }

    public int feed(int a, int b, int c, int d, int e) {
        if (!tape.hasRoom()) {
            return NONE;
        }
        tape.append(a);
        tape.append(b);
        tape.append(c);
        tape.append(d);
        tape.append(e);
        return tape.length;
    }

    public int member(int shares) {
        return perform(Call.ENROL, shares, 0, null) ? ledger.size - 1 : NONE;
    }

    public int vote(int members, int n) {
        if (history.isFull() || !tape.holds(n) || !ledger.areAllIn(members)) {
            return NONE;
        }
        int fault = reader.read(tape.bytes, n);
        tape.length = 0;
        if (fault != 0) {
            return fault;
        }
        if (!ledger.isCarriedBy(members)) {
            return NOT_CARRIED;
        }
        int number = history.votes;
        return perform(Call.VOTE, members, number, reader.rulesRead()) ? number : NONE;
    }

    public boolean pay(int m, int pence) {
        return perform(Call.PAY, m, pence, null);
    }

    public boolean lot(int n) {
        return perform(Call.LOT, n, 0, null);
    }

    public boolean bid(int m, int pence) {
        return perform(Call.BID, m, pence, null);
    }

    public boolean seen(int m) {
        return perform(Call.SEEN, m, 0, null);
    }

    public boolean leave(int m) {
        return perform(Call.LEAVE, m, 0, null);
    }

    public boolean fail(int m) {
        return perform(Call.FAIL, m, 0, null);
    }

    public int week(int n) {
        return perform(Call.WEEK, n, 0, null) ? ledger.week : NONE;
    }

    public int look(int m, int what) {
        return ledger.isMember(m) ? ledger.members[m].tell(what) : NONE;
    }

    public long club(int what) {
        switch (what) {
            case 0: return ledger.cash;
            case 1: return ledger.toBuilder;
            case 2: return ledger.fines;
            case 3: return ledger.together(Member.CREDIT);
            case 4: return ledger.together(Member.HELD);
            case 5: return ledger.together(Member.DUE);
            case 6: return ledger.toLeavers;
            case 7: return ledger.paidIn;
            default: return NONE;
        }
    }

    public int rule(int letter) {
        int place = Rules.placeOf(letter);
        return place == NONE ? NONE : ledger.next.number[place];
    }

    public int end() {
        return outlook.weekOfLastDraw(ledger);
    }

    public long beside(int k, int what) {
        if (k < 0 || k >= history.votes) {
            return NONE;
        }
        Ledger other = replay.without(k, history);
        switch (what) {
            case 0: return other.cash;
            case 1: return other.drawn;
            case 2: return outlook.weekOfLastDraw(other);
            default: return other.isMember(what - 10) ? other.members[what - 10].credit : NONE;
        }
    }

    public int count(int what) {
        switch (what) {
            case 0: return ledger.size;
            case 1: return ledger.membersIn();
            case 2: return ledger.week;
            case 3: return ledger.drawn;
            case 4: return ledger.housesDone();
            case 5: return history.votes;
            case 6: return history.size;
            case 7: return tape.length;
            default: return NONE;
        }
    }

    /** Only what was done is kept, so that a replay never meets a call that was refused. */
    private boolean perform(int kind, int first, int second, Rules rules) {
        if (history.isFull() || !ledger.enter(kind, first, second, rules)) {
            return false;
        }
        history.keep(new Call(kind, first, second, rules));
        return true;
    }

    /** The numbers of one TEXT; never changed once made, so ledgers may share them. */
    private static final class Rules {
        static final int SHARE = 0;
        static final int MORE = 1;
        static final int FINE = 2;
        static final int PRICE = 3;
        static final int STAGES = 4;
        static final int BIDDING = 5;
        static final int BACK = 6;
        static final int WAIT = 7;
        static final int LETTER_COUNT = 8;
        static final String LETTERS = "srfhgblq";
        static final int[] FIRST = {20, 10, 5, 600, 3, 0, 80, 4};
        static final int[] LEAST = {1, 0, 0, 10, 1, 0, 0, 0};
        static final int[] MOST = {1000, 1000, 500, 9999, 5, 1, 100, 99};

        final int[] number;

        Rules(int[] numbers) {
            number = numbers.clone();
        }

        static int placeOf(int letter) {
            return letter < 0 || letter > 255 ? NONE : LETTERS.indexOf((char) letter);
        }
    }

    /** The bytes that were fed and not yet voted on. */
    private static final class Tape {
        static final int ROOM = 60;
        static final int FEED = 20;

        final int[] bytes = new int[ROOM];
        int length;

        boolean hasRoom() {
            return length + FEED <= ROOM;
        }

        boolean holds(int n) {
            return n >= 0 && n <= length;
        }

        void append(int four) {
            for (int shift = 24; shift >= 0; shift -= 8) {
                if (length < ROOM) {
                    bytes[length] = (four >>> shift) & 255;
                    length++;
                }
            }
        }
    }

    /** Reads a TEXT from the left, so that the FAULT it stops at is the first one. */
    private static final class TextReader {
        static final int NO_LETTER = 1;
        static final int NO_DIGIT = 2;
        static final int FIFTH_DIGIT = 3;
        static final int NO_SUCH_NUMBER = 4;
        static final int NO_END = 5;
        static final int MOST_DIGITS = 4;

        private final int[] number = new int[Rules.LETTER_COUNT];
        private int at;

        /** 0 if the TEXT has no FAULT, else the FAULT as a VOTE answers it. */
        int read(int[] text, int length) {
            System.arraycopy(Rules.FIRST, 0, number, 0, Rules.LETTER_COUNT);
            at = 0;
            // A clause takes two bytes at least, so that there are fewer clauses than bytes.
            for (int clause = 0; clause <= length; clause++) {
                int fault = readClause(text, length);
                if (fault != 0 || at >= length) {
                    return fault;
                }
                at++;
            }
            return 0;
        }

        Rules rulesRead() {
            return new Rules(number);
        }

        private int readClause(int[] text, int length) {
            int place = at < length ? Rules.placeOf(text[at]) : NONE;
            if (place == NONE) {
                return faultAt(NO_LETTER, at);
            }
            at++;
            int firstDigit = at;
            int value = 0;
            while (at < length && text[at] >= '0' && text[at] <= '9') {
                if (at - firstDigit == MOST_DIGITS) {
                    return faultAt(FIFTH_DIGIT, at);
                }
                value = value * 10 + text[at] - '0';
                at++;
            }
            if (at == firstDigit) {
                return faultAt(NO_DIGIT, at);
            }
            if (value < Rules.LEAST[place] || value > Rules.MOST[place]) {
                return faultAt(NO_SUCH_NUMBER, firstDigit);
            }
            if (at < length && text[at] != ';') {
                return faultAt(NO_END, at);
            }
            number[place] = value;
            return 0;
        }

        private static int faultAt(int fault, int place) {
            return -100 * fault - place;
        }
    }

    /** A call that was done, with what is needed to do it again. */
    private static final class Call {
        static final int ENROL = 0;
        static final int VOTE = 1;
        static final int PAY = 2;
        static final int LOT = 3;
        static final int BID = 4;
        static final int SEEN = 5;
        static final int LEAVE = 6;
        static final int FAIL = 7;
        static final int WEEK = 8;

        final int kind;
        final int first;
        final int second;
        final Rules rules;

        Call(int kind, int first, int second, Rules rules) {
            this.kind = kind;
            this.first = first;
            this.second = second;
            this.rules = rules;
        }

        boolean isVote(int number) {
            return kind == VOTE && second == number;
        }
    }

    /** The calls that were done, in their order. */
    private static final class History {
        static final int ROOM = 400;

        final Call[] calls = new Call[ROOM];
        int size;
        int votes;

        boolean isFull() {
            return size >= ROOM;
        }

        void keep(Call call) {
            if (size < ROOM) {
                calls[size] = call;
                size++;
                votes += call.kind == Call.VOTE ? 1 : 0;
            }
        }
    }

    /** A HOUSE that a MEMBER has, or the place for it: no STAGES means that there is none. */
    private static final class House {
        int stages;
        int stagesPaid;
        int stagePrice;
        int held;
        int lacks;
        int drawWeek;
        boolean isSeen;

        void clear() {
            stages = 0;
            stagesPaid = 0;
            stagePrice = 0;
            held = 0;
            lacks = 0;
            drawWeek = NONE;
            isSeen = false;
        }

        void copyFrom(House from) {
            stages = from.stages;
            stagesPaid = from.stagesPaid;
            stagePrice = from.stagePrice;
            held = from.held;
            lacks = from.lacks;
            drawWeek = from.drawWeek;
            isSeen = from.isSeen;
        }

        void begin(int drawnInWeek, int ofStages, int pence) {
            stages = ofStages;
            stagePrice = ofStages > 0 ? pence / ofStages : pence;
            held = pence;
            drawWeek = drawnInWeek;
        }

        boolean canBeSeen() {
            return stagesPaid < stages && lacks == 0 && !isSeen;
        }

        boolean canFail() {
            return stagesPaid > 0 && stagesPaid < stages && lacks == 0;
        }

        /** Pays the next STAGE if the HOUSE was SEEN: what the BUILDER gets. */
        int payStage() {
            if (!isSeen || stagesPaid >= stages) {
                return 0;
            }
            stagesPaid++;
            isSeen = false;
            int pence = stagesPaid == stages ? held : stagePrice;
            held -= pence;
            return pence;
        }

        void loseStage() {
            stagesPaid--;
            isSeen = false;
            lacks = stagePrice;
        }

        /** Takes what the HOUSE LACKS out of so much CASH, if it is enough: how much that is. */
        int fillLack(long cash) {
            int pence = cash < lacks ? 0 : lacks;
            held += pence;
            lacks -= pence;
            return pence;
        }
    }

    /** A MEMBER, IN or gone. */
    private static final class Member {
        static final int CREDIT = 2;
        static final int HELD = 6;
        static final int DUE = 10;

        final House house = new House();
        int shares;
        boolean isIn;
        int credit;
        int arrears;
        int paid;
        int bid;
        int due;
        int dueWeek;
        int got;

        void join(int withShares) {
            house.clear();
            shares = withShares;
            isIn = true;
            credit = 0;
            arrears = 0;
            paid = 0;
            bid = 0;
            due = 0;
            dueWeek = 0;
            got = 0;
        }

        void copyFrom(Member from) {
            house.copyFrom(from.house);
            shares = from.shares;
            isIn = from.isIn;
            credit = from.credit;
            arrears = from.arrears;
            paid = from.paid;
            bid = from.bid;
            due = from.due;
            dueWeek = from.dueWeek;
            got = from.got;
        }

        boolean hasHouse() {
            return house.stages > 0;
        }

        boolean mayDraw() {
            return isIn && house.stages == 0 && arrears == 0;
        }

        int owes(Rules rules) {
            int pence = rules.number[Rules.SHARE];
            if (house.stages > 0) {
                pence += rules.number[Rules.MORE];
            }
            return shares * pence + arrears;
        }

        int tell(int what) {
            switch (what) {
                case 0: return shares;
                case 1: return isIn ? 1 : 0;
                case CREDIT: return credit;
                case 3: return arrears;
                case 4: return paid;
                case 5: return hasHouse() ? house.stagesPaid : NONE;
                case HELD: return house.held;
                case 7: return house.lacks;
                case 8: return house.drawWeek;
                case 9: return bid;
                case DUE: return due;
                case 11: return got;
                case 12: return hasHouse() ? house.stages : NONE;
                default: return NONE;
            }
        }
    }

    /** How the club stands; the same one serves for what is, what would be and what will be. */
    private static final class Ledger {
        static final int MOST_MEMBERS = 12;
        static final int MOST_SHARES = 5;
        static final int MOST_PENCE = 100000;
        static final int MOST_LOT = 10000;
        static final int MOST_BID = 5000;
        static final int MOST_WEEKS = 100;

        final Member[] members = new Member[MOST_MEMBERS];
        final int[] leavers = new int[MOST_MEMBERS];
        final Rules first = new Rules(Rules.FIRST);
        int size;
        int leaverCount;
        int week;
        int lot;
        int drawn;
        long cash;
        long toBuilder;
        long toLeavers;
        long fines;
        long paidIn;
        Rules inForce = first;
        Rules next = first;

        Ledger() {
            for (int m = 0; m < MOST_MEMBERS; m++) {
                members[m] = new Member();
            }
        }

        /** Members need no clearing here: they are cleared when they join. */
        void clear() {
            size = 0;
            leaverCount = 0;
            week = 0;
            lot = 0;
            drawn = 0;
            cash = 0;
            toBuilder = 0;
            toLeavers = 0;
            fines = 0;
            paidIn = 0;
            inForce = first;
            next = first;
        }

        void copyFrom(Ledger from) {
            size = from.size;
            leaverCount = from.leaverCount;
            week = from.week;
            lot = from.lot;
            drawn = from.drawn;
            cash = from.cash;
            toBuilder = from.toBuilder;
            toLeavers = from.toLeavers;
            fines = from.fines;
            paidIn = from.paidIn;
            inForce = from.inForce;
            next = from.next;
            System.arraycopy(from.leavers, 0, leavers, 0, MOST_MEMBERS);
            for (int m = 0; m < size; m++) {
                members[m].copyFrom(from.members[m]);
            }
        }

        /** Does a call of this kind: false, and nothing changed, if it can't be done. */
        boolean enter(int kind, int a, int b, Rules rules) {
            switch (kind) {
                case Call.ENROL: return enrol(a);
                case Call.VOTE: return carry(a, rules);
                case Call.PAY: return payIn(a, b);
                case Call.LOT: return tellLot(a);
                case Call.BID: return takeBid(a, b);
                case Call.SEEN: return markSeen(a);
                case Call.LEAVE: return letGo(a);
                case Call.FAIL: return letBuilderFail(a);
                case Call.WEEK: return passWeeks(a);
                default: return false;
            }
        }

        boolean isMember(int m) {
            return m >= 0 && m < size;
        }

        boolean isMemberIn(int m) {
            return m >= 0 && m < size && members[m].isIn;
        }

        boolean areAllIn(int set) {
            if (set >>> size != 0) {
                return false;
            }
            for (int m = 0; m < size; m++) {
                if ((set >>> m & 1) == 1 && !members[m].isIn) {
                    return false;
                }
            }
            return true;
        }

        boolean isCarriedBy(int set) {
            int all = 0;
            int ayes = 0;
            for (int m = 0; m < size; m++) {
                if (members[m].isIn) {
                    all += members[m].shares;
                    ayes += (set >>> m & 1) == 1 ? members[m].shares : 0;
                }
            }
            return 2 * ayes > all;
        }

        boolean areAllHoused() {
            for (int m = 0; m < size; m++) {
                if (members[m].isIn && !members[m].hasHouse()) {
                    return false;
                }
            }
            return true;
        }

        int membersIn() {
            int sum = 0;
            for (int m = 0; m < size; m++) {
                sum += members[m].isIn ? 1 : 0;
            }
            return sum;
        }

        int housesDone() {
            int sum = 0;
            for (int m = 0; m < size; m++) {
                House house = members[m].house;
                sum += house.stages > 0 && house.stagesPaid == house.stages ? 1 : 0;
            }
            return sum;
        }

        /** The sum of what each MEMBER tells, by the document's number for it. */
        long together(int what) {
            long sum = 0;
            for (int m = 0; m < size; m++) {
                sum += members[m].tell(what);
            }
            return sum;
        }

        /**
         * Makes next week one of THE END's: all can pay, no LOT, no BID. Whether a HOUSE is SEEN
         * is left as it is: STAGES come out of what is HELD, and draws ask for CASH alone.
         */
        void grantPlenty() {
            lot = 0;
            for (int m = 0; m < size; m++) {
                Member member = members[m];
                member.bid = 0;
                if (member.isIn) {
                    member.credit = Math.max(member.credit, member.owes(next));
                }
            }
        }

        /** In a week of plenty with nothing to pay, CASH but grows: such weeks go by at once. */
        void skipWeeksOfSaving(int lastWeek) {
            long dues = 0;
            for (int m = 0; m < size; m++) {
                Member member = members[m];
                if (member.due > 0 || member.house.lacks > 0) {
                    return;
                }
                dues += member.isIn ? member.owes(next) : 0;
            }
            long missing = next.number[Rules.PRICE] - cash;
            if (dues < 1 || missing < 1) {
                return;
            }
            long weeks = Math.min((missing - 1) / dues, lastWeek - week);
            cash += weeks * dues;
            week += (int) weeks;
        }

        boolean passWeeks(int n) {
            if (n < 1 || n > MOST_WEEKS) {
                return false;
            }
            for (int i = 0; i < n; i++) {
                week++;
                inForce = next;
                takeDues();
                payLeavers();
                payStages();
                holdDraw();
                fillLacks();
                lot = 0;
            }
            return true;
        }

        private boolean enrol(int shares) {
            if (shares < 1 || shares > MOST_SHARES || size >= MOST_MEMBERS) {
                return false;
            }
            members[size].join(shares);
            size++;
            return true;
        }

        private boolean carry(int set, Rules rules) {
            if (rules == null || !areAllIn(set) || !isCarriedBy(set)) {
                return false;
            }
            next = rules;
            return true;
        }

        private boolean payIn(int m, int pence) {
            if (!isMemberIn(m) || pence < 1 || pence > MOST_PENCE) {
                return false;
            }
            members[m].credit += pence;
            paidIn += pence;
            return true;
        }

        private boolean tellLot(int n) {
            if (n < 0 || n > MOST_LOT) {
                return false;
            }
            lot = n;
            return true;
        }

        private boolean takeBid(int m, int pence) {
            if (!isMemberIn(m) || pence < 0 || pence > MOST_BID) {
                return false;
            }
            members[m].bid = pence;
            return true;
        }

        private boolean markSeen(int m) {
            if (!isMember(m) || !members[m].house.canBeSeen()) {
                return false;
            }
            members[m].house.isSeen = true;
            return true;
        }

        private boolean letGo(int m) {
            if (!isMemberIn(m) || members[m].hasHouse() || leaverCount >= MOST_MEMBERS) {
                return false;
            }
            Member leaver = members[m];
            long back = (long) leaver.paid * inForce.number[Rules.BACK] / 100;
            leaver.due = (int) back + leaver.credit;
            leaver.dueWeek = week + inForce.number[Rules.WAIT];
            cash += leaver.credit;
            leaver.credit = 0;
            leaver.arrears = 0;
            leaver.bid = 0;
            leaver.isIn = false;
            leavers[leaverCount] = m;
            leaverCount++;
            return true;
        }

        private boolean letBuilderFail(int m) {
            if (!isMember(m) || !members[m].house.canFail()) {
                return false;
            }
            members[m].house.loseStage();
            cash -= members[m].house.fillLack(cash);
            return true;
        }

        private void takeDues() {
            for (int m = 0; m < size; m++) {
                Member member = members[m];
                if (!member.isIn) {
                    continue;
                }
                int owed = member.owes(inForce);
                if (member.credit >= owed) {
                    member.credit -= owed;
                    member.paid += owed;
                    member.arrears = 0;
                    cash += owed;
                } else {
                    int fine = member.shares * inForce.number[Rules.FINE];
                    member.arrears = owed + fine;
                    fines += fine;
                }
            }
        }

        private void payLeavers() {
            for (int i = 0; i < leaverCount; i++) {
                Member leaver = members[leavers[i]];
                if (leaver.due == 0 || week < leaver.dueWeek) {
                    continue;
                }
                if (cash < leaver.due) {
                    return;
                }
                cash -= leaver.due;
                toLeavers += leaver.due;
                leaver.got = leaver.due;
                leaver.due = 0;
            }
        }

        private void payStages() {
            for (int m = 0; m < size; m++) {
                toBuilder += members[m].house.payStage();
            }
        }

        private void holdDraw() {
            int price = inForce.number[Rules.PRICE];
            if (cash < price) {
                return;
            }
            boolean byBids = inForce.number[Rules.BIDDING] == 1;
            int winner = byBids ? greatestBidder(price / 2) : holderOfLot();
            if (winner == NONE) {
                return;
            }
            Member member = members[winner];
            int bid = byBids ? Math.min(member.bid, price / 2) : 0;
            cash -= price;
            member.house.begin(week, inForce.number[Rules.STAGES], price - bid);
            member.bid = 0;
            drawn++;
            shareOut(bid);
        }

        private int greatestBidder(int mostThatCounts) {
            int winner = NONE;
            int greatest = NONE;
            for (int m = 0; m < size; m++) {
                int counted = Math.min(members[m].bid, mostThatCounts);
                if (members[m].mayDraw() && counted > greatest) {
                    winner = m;
                    greatest = counted;
                }
            }
            return winner;
        }

        private int holderOfLot() {
            int all = 0;
            for (int m = 0; m < size; m++) {
                all += members[m].mayDraw() ? members[m].shares : 0;
            }
            int left = all > 0 ? lot % all : 0;
            for (int m = 0; m < size; m++) {
                if (members[m].mayDraw()) {
                    if (left < members[m].shares) {
                        return m;
                    }
                    left -= members[m].shares;
                }
            }
            return NONE;
        }

        private void shareOut(int bid) {
            int all = 0;
            for (int m = 0; m < size; m++) {
                all += members[m].isIn ? members[m].shares : 0;
            }
            int left = bid;
            for (int m = 0; m < size && all > 0; m++) {
                if (members[m].isIn) {
                    int part = bid * members[m].shares / all;
                    members[m].credit += part;
                    left -= part;
                }
            }
            cash += left;
        }

        private void fillLacks() {
            for (int m = 0; m < size; m++) {
                cash -= members[m].house.fillLack(cash);
            }
        }
    }

    /** Looks ahead to THE END in a ledger of its own. */
    private static final class Outlook {
        static final int FURTHEST = 2000;

        private final Ledger trial = new Ledger();

        int weekOfLastDraw(Ledger now) {
            if (now.areAllHoused()) {
                return now.week;
            }
            trial.copyFrom(now);
            int lastWeek = now.week + FURTHEST;
            for (int i = 0; i < FURTHEST && trial.week < lastWeek; i++) {
                trial.grantPlenty();
                trial.passWeeks(1);
                if (trial.areAllHoused()) {
                    return trial.week;
                }
                trial.skipWeeksOfSaving(lastWeek);
            }
            return NONE;
        }
    }

    /** Does again what was done, without one VOTE; goes on from where it was if it is the same. */
    private static final class Replay {
        private final Ledger other = new Ledger();
        private int leftOut = NONE;
        private int replayed;

        Ledger without(int vote, History history) {
            if (vote != leftOut) {
                other.clear();
                leftOut = vote;
                replayed = 0;
            }
            for (int i = replayed; i < history.size; i++) {
                Call call = history.calls[i];
                if (call != null && !call.isVote(vote)) {
                    other.enter(call.kind, call.first, call.second, call.rules);
                }
            }
            replayed = history.size;
            return other;
        }
    }
}
