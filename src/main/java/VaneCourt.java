/** A court under a weathervane: the law by which a case is judged turns with the wind. */
public final class VaneCourt {
    public static final int NONE = -1;

    private static final int OTHER = -2;
    private static final int ROWS = 8;
    private static final int QUARTERS = 4;
    private static final int FACT_SETS = 256;
    private static final int TEXTS = 4;
    private static final int LAST_HOUR = 9999;
    private static final int HOURS_AT_ONCE = 60;
    private static final int LATEST_CALL = 20;
    private static final int MOST_DELAYS = 3;
    private static final int SESSION_CASES = 5;
    private static final int STEPS = 30;
    private static final int BOOK_ENTRIES = 30;

    // What a step takes back is one row of numbers; is(what) answers its first nine as they stand.
    private static final int QUARTER = 0;
    private static final int FORCE = 1;
    private static final int FOG = 2;
    private static final int HOUR = 3;
    private static final int X = 4;
    private static final int WIND = 5;
    private static final int IN_COURT = 5;
    private static final int HEARD = 6;
    private static final int LAWS = 7;
    private static final int DELAYS = 8;
    private static final int BOOKED = 9;
    private static final int HOW = 10;
    private static final int SENTENCES = HOW + ROWS;
    private static final int APPEALS = SENTENCES + ROWS;
    private static final int BOOK = APPEALS + ROWS;
    private static final int STATE = BOOK + BOOK_ENTRIES;

    private static final int WAITS = 0;
    private static final int HEARING = 1;
    private static final int ACQUITTED = 2;
    private static final int GUILTY = 3;

    // Columns of the rows of cases, of records and what is learned, and of counsel.
    private static final int KIND = 0;
    private static final int GRAVITY = 1;
    private static final int NEEDS = 2;
    private static final int FACTS = 3;
    private static final int OF_CASE = 0;
    private static final int SAID_GUILTY = 1;
    private static final int VANE_SHOWED = 2;
    private static final int PRICE = 0;
    private static final int SKILL = 1;

    private final Court court;
    private final Court kept;
    private final Text[] texts;
    private final Tape tape;
    private final Law law;
    private final Foresight foresight;
    private final int[] fitting;
    private int fault;
    private int faultPlace;

    public VaneCourt() {
        Court sitting = new Court();
        Law bench = new Law();
        court = sitting;
        law = bench;
        foresight = new Foresight(sitting, bench);
        kept = new Court();
        tape = new Tape();
        texts = new Text[TEXTS];
        for (int i = 0; i < TEXTS; i++) {
            texts[i] = new Text();
        }
        fitting = new int[FACT_SETS];
        fault = NONE;
        faultPlace = NONE;
    }

    public int newCase(int kind, int gravity, int needs, int facts) {
        boolean told = within(kind, 0, 5) && within(gravity, 1, 9) && within(needs, 1, 9)
                && within(facts, 0, FACT_SETS - 1);
        if (!told || court.cases.isFull()) {
            return NONE;
        }
        return court.cases.add(kind, gravity, needs, facts) - 1;
    }

    public int feed(int a, int b, int c, int d, int e) {
        if (!tape.hasRoom()) {
            return NONE;
        }
        tape.put(a);
        tape.put(b);
        tape.put(c);
        tape.put(d);
        tape.put(e);
        return tape.length;
    }

    public int end(int n) {
        if (!within(n, 0, tape.length)) {
            return NONE;
        }
        tape.length = n;
        return n;
    }

    public int text() {
        int number = court.texts;
        if (!within(number, 0, TEXTS - 1)) {
            return NONE;
        }
        tape.scan();
        Reader reader = new Reader(tape, texts[number]);
        boolean fine = reader.readAll();
        fault = reader.fault;
        faultPlace = reader.faultPlace;
        tape.length = 0;
        if (!fine) {
            return NONE;
        }
        court.texts = number + 1;
        return number;
    }

    public int fault(int what) {
        if (what == 0) {
            return fault;
        }
        return what == 1 ? faultPlace : NONE;
    }

    public boolean by(int text) {
        if (text != NONE && !isText(text)) {
            return false;
        }
        court.ruling = text;
        return true;
    }

    public boolean call(int c) {
        if (!court.canBring(c)) {
            return false;
        }
        court.keepStep();
        court.bring(c);
        return true;
    }

    public int delay() {
        if (!court.canPutOff()) {
            return NONE;
        }
        court.keepStep();
        court.putOff();
        return court.now[DELAYS];
    }

    public boolean appeal(int c) {
        if (!court.canReopen(c)) {
            return false;
        }
        court.keepStep();
        court.reopen(c);
        return true;
    }

    public boolean gust(int quarter, int force) {
        boolean told = within(quarter, 0, QUARTERS - 1) && within(force, 0, 9);
        if (!told || (court.now[QUARTER] == quarter && court.now[FORCE] == force)) {
            return false;
        }
        court.keepStep();
        court.now[QUARTER] = quarter;
        court.now[FORCE] = force;
        return true;
    }

    public int withdraw() {
        int c = court.now[IN_COURT];
        if (!court.cases.has(c)) {
            return NONE;
        }
        court.keepStep();
        court.release(c, WAITS);
        return c;
    }

    public int hour(int n) {
        if (!within(n, 1, HOURS_AT_ONCE) || n > court.hoursLeft()) {
            return NONE;
        }
        return passHours(n);
    }

    public int played(int text) {
        if (!isText(text)) {
            return OTHER;
        }
        Text script = texts[text];
        for (int i = 0; i < script.clauseCount; i++) {
            if (!isDone(script, i)) {
                return i;
            }
        }
        return NONE;
    }

    public int decades(int seed, int n) {
        if (!within(seed, 0, 9999) || !within(n, 1, 40) || court.cases.size == 0) {
            return NONE;
        }
        court.keepStep();
        court.now[X] = seed * 2 + 107;
        for (int i = 0; i < n; i++) {
            court.passDrawn(law, ruling());
        }
        return court.now[HOUR];
    }

    public int undo() {
        return court.takeBack() ? court.stepCount : NONE;
    }

    public int ofCase(int c, int what) {
        if (!court.cases.has(c)) {
            return NONE;
        }
        switch (what) {
            case 0:
            case 1:
            case 2:
            case 3:
                return court.cases.at(c, what);
            case 4:
                return court.now[HOW + c];
            case 5:
                return court.now[SENTENCES + c];
            case 6:
                return court.now[APPEALS + c];
            default:
                return NONE;
        }
    }

    public int is(int what) {
        return within(what, QUARTER, DELAYS) ? court.now[what] : OTHER;
    }

    public int book(int i, int what) {
        if (i == NONE) {
            return court.now[BOOKED];
        }
        if (!within(i, 0, court.now[BOOKED] - 1)) {
            return OTHER;
        }
        int entry = court.now[BOOK + i];
        switch (what) {
            case 0:
                return entry / 16000;
            case 1:
                return entry / 2000 % 8;
            case 2:
                return entry / 1000 % 2;
            case 3:
                return entry % 1000;
            default:
                return OTHER;
        }
    }

    public int foretold(int n, int what) {
        if (!within(n, 1, HOURS_AT_ONCE)) {
            return NONE;
        }
        foresight.look(ruling(), n);
        // Behind more hours than can pass, the wind is that of the last hour.
        int last = foresight.seen;
        if (!within(last, 0, HOURS_AT_ONCE)) {
            return NONE;
        }
        switch (what) {
            case 0:
                return foresight.quarters[last];
            case 1:
                return foresight.forces[last];
            case 2:
                return foresight.fogs[last];
            default:
                return NONE;
        }
    }

    public int ends(int c, int k, int d, int what) {
        boolean told = within(k, 0, LATEST_CALL) && within(d, 0, MOST_DELAYS) && within(what, 0, 2);
        if (!told || !court.isWaiting(c)) {
            return NONE;
        }
        int heard = court.cases.at(c, NEEDS) + d;
        foresight.look(ruling(), k + heard);
        int sentence = foresight.endOf(c, k, heard);
        if (sentence == Foresight.NO_END) {
            return NONE;
        }
        if (what == 0) {
            return k + heard;
        }
        if (what == 1) {
            return sentence == NONE ? 0 : 1;
        }
        return sentence == NONE ? 0 : sentence;
    }

    public int best(int c, boolean guilty, int what) {
        if (!court.isWaiting(c) || !within(what, 0, 2)) {
            return NONE;
        }
        lookAtCalls(c);
        int found = foresight.soonest(c, guilty);
        if (found == NONE) {
            return NONE;
        }
        int k = found / 4;
        int d = found % 4;
        if (what == 0) {
            return k;
        }
        return what == 1 ? d : k + d + court.cases.at(c, NEEDS);
    }

    public int harshest(int c) {
        if (!court.isWaiting(c)) {
            return NONE;
        }
        lookAtCalls(c);
        return foresight.gravest(c);
    }

    public long odds(boolean low) {
        int c = court.now[IN_COURT];
        if (!court.cases.has(c)) {
            return NONE;
        }
        int left = court.cases.at(c, NEEDS) + court.now[DELAYS] - court.now[HEARD];
        if (!within(left, 1, 3)) {
            return NONE;
        }
        long all = left == 1 ? 1 : left == 2 ? 10 : 100;
        long ways = foresight.guiltyWays(ruling(), c, left);
        long shared = commonDivisor(ways, all);
        if (shared < 1) {
            return NONE;
        }
        return low ? all / shared : ways / shared;
    }

    public int clash(int c) {
        if (!court.cases.has(c)) {
            return NONE;
        }
        return guiltyCodes(c, court.cases.at(c, FACTS));
    }

    public int leastFacts(int c) {
        if (!court.cases.has(c)) {
            return NONE;
        }
        int facts = court.cases.at(c, FACTS);
        Text text = ruling();
        // Facts that no code asks for are never among the least; what is so without a code asks for fact 0.
        int asked = text == null ? 1 : text.factsAsked | 1;
        for (int many = 0; many <= 8; many++) {
            for (int set = 0; set < FACT_SETS; set++) {
                if ((set & ~asked) == 0 && Integer.bitCount(set) == many && allAlike(c, facts ^ set)) {
                    return set;
                }
            }
        }
        return NONE;
    }

    public int game(int c, boolean accuser, boolean delays) {
        if (!court.isWaiting(c)) {
            return NONE;
        }
        foresight.look(ruling(), court.cases.at(c, NEEDS) + MOST_DELAYS);
        int found = foresight.duel(c, accuser);
        return delays ? found % 2 : found / 2;
    }

    public int session(int cases, int i) {
        int many = Integer.bitCount(cases);
        if (!within(cases, 1, 255) || many > SESSION_CASES || !within(i, NONE, many - 1)) {
            return OTHER;
        }
        int hours = 0;
        for (int c = 0; c < ROWS; c++) {
            if ((cases >> c & 1) == 1) {
                if (!court.isWaiting(c)) {
                    return OTHER;
                }
                hours += court.cases.at(c, NEEDS);
            }
        }
        foresight.look(ruling(), hours);
        foresight.arrangeAll(cases);
        return i == NONE ? foresight.bestSum : foresight.bestOrder[i];
    }

    public int record(int c, int quarter, boolean guilty) {
        if (c == NONE) {
            return court.records.empty();
        }
        if (!court.cases.has(c) || !within(quarter, 0, QUARTERS - 1) || court.records.isFull()) {
            return OTHER;
        }
        return court.records.add(c, guilty ? 1 : 0, quarter, 0);
    }

    public int turned() {
        int turns = 0;
        for (int turn = 0; turn < QUARTERS; turn++) {
            if (wrongRecords(ruling(), turn) == 0) {
                turns |= 1 << turn;
            }
        }
        return turns;
    }

    public int fewestWrong() {
        int fewest = ROWS;
        for (int turn = 0; turn < QUARTERS; turn++) {
            int wrong = wrongRecords(ruling(), turn);
            if (wrong < fewest) {
                fewest = wrong;
            }
        }
        return fewest;
    }

    public int whose() {
        int found = 0;
        for (int i = 0; i < court.texts && i < TEXTS; i++) {
            if (wrongRecords(texts[i], 0) == 0) {
                found |= 1 << i;
            }
        }
        return found;
    }

    public int learn(int c, boolean guilty) {
        if (c == NONE) {
            return court.learned.empty();
        }
        if (!court.cases.has(c) || court.learned.isFull()) {
            return OTHER;
        }
        return court.learned.add(c, guilty ? 1 : 0, 0, 0);
    }

    public int codes(int i) {
        int many = gatherCodes();
        if (i == NONE) {
            return many;
        }
        return within(i, 0, many - 1) ? fitting[i] : NONE;
    }

    public int sure(int c) {
        int many = gatherCodes();
        if (!court.cases.has(c) || many == 0) {
            return NONE;
        }
        int guilty = guiltyByGathered(court.cases.at(c, FACTS), many);
        if (guilty == many) {
            return 1;
        }
        return guilty == 0 ? 0 : NONE;
    }

    public int toBring() {
        int many = gatherCodes();
        int found = NONE;
        int nearest = FACT_SETS;
        for (int c = 0; c < court.cases.size; c++) {
            int guilty = guiltyByGathered(court.cases.at(c, FACTS), many);
            int away = Math.abs(2 * guilty - many);
            if (guilty > 0 && guilty < many && away < nearest) {
                nearest = away;
                found = c;
            }
        }
        return found;
    }

    public int counsel(int price, int skill) {
        if (price == NONE) {
            return court.counsels.empty();
        }
        if (!within(price, 1, 999) || !within(skill, 0, 99) || court.counsels.isFull()) {
            return OTHER;
        }
        return court.counsels.add(price, skill, 0, 0);
    }

    public int hired(int p, boolean who) {
        if (!within(p, 0, 9999)) {
            return NONE;
        }
        int best = 0;
        int bestPrice = 0;
        int bestSkill = 0;
        for (int set = 0; set < 1 << court.counsels.size; set++) {
            int price = court.counsels.sum(set, PRICE);
            int skill = court.counsels.sum(set, SKILL);
            boolean better = skill > bestSkill || (skill == bestSkill && price < bestPrice);
            if (price <= p && better) {
                best = set;
                bestPrice = price;
                bestSkill = skill;
            }
        }
        return who ? best : bestSkill;
    }

    public int calm(int n) {
        if (!within(n, 1, HOURS_AT_ONCE)) {
            return NONE;
        }
        foresight.look(ruling(), n);
        return foresight.longestCalm();
    }

    public int standing(int n, int quarter) {
        if (!within(n, 1, HOURS_AT_ONCE) || !within(quarter, 0, QUARTERS - 1)) {
            return NONE;
        }
        foresight.look(ruling(), n);
        return foresight.hoursOf(quarter);
    }

    public int image() {
        kept.copyFrom(court);
        return court.now[HOUR];
    }

    public int back() {
        // Texts only ever come behind those of the image, so the image's own texts still stand.
        court.copyFrom(kept);
        return court.now[HOUR];
    }

    public int about(int what) {
        switch (what) {
            case 0:
                return court.cases.size;
            case 1:
                return court.texts;
            case 2:
                return court.ruling;
            case 3:
                return court.stepCount;
            case 4:
                return court.records.size;
            case 5:
                return court.learned.size;
            case 6:
                return court.counsels.size;
            case 7:
                return tape.length;
            default:
                return OTHER;
        }
    }

    private static int nextX(int x) {
        return (x * 331 + 223) % 30389;
    }

    private static boolean within(int value, int low, int high) {
        return value >= low && value <= high;
    }

    private boolean isText(int text) {
        return text >= 0 && text < court.texts && text < TEXTS;
    }

    /** The text that rules, null if none does. */
    private Text ruling() {
        return isText(court.ruling) ? texts[court.ruling] : null;
    }

    private int passHours(int n) {
        int ended = 0;
        for (int i = 0; i < n && i < HOURS_AT_ONCE; i++) {
            court.keepStep();
            if (court.passHour(law, ruling())) {
                ended++;
            }
        }
        return ended;
    }

    private boolean isDone(Text script, int clause) {
        int a = script.clauseAt(clause, 1);
        int b = script.clauseAt(clause, 2);
        switch (script.clauseAt(clause, 0)) {
            case Word.CASE:
                return newCase(a, b, script.clauseAt(clause, 3), 0) != NONE;
            case Word.CALL:
                return call(a);
            case Word.DELAY:
                return delay() != NONE;
            case Word.APPEAL:
                return appeal(a);
            case Word.GUST:
                return gust(a, b);
            case Word.WITHDRAW:
                return withdraw() != NONE;
            case Word.HOUR:
                int left = court.hoursLeft();
                passHours(Math.min(a, left));
                return a <= left;
            default:
                return true;
        }
    }

    private void lookAtCalls(int c) {
        foresight.look(ruling(), LATEST_CALL + MOST_DELAYS + court.cases.at(c, NEEDS));
    }

    private static long commonDivisor(long a, long b) {
        long greater = b;
        long lesser = a;
        for (int i = 0; i < 100 && lesser > 0; i++) {
            long rest = greater % lesser;
            greater = lesser;
            lesser = rest;
        }
        return greater;
    }

    /** The quarters whose codes would find the case guilty now, if these were its facts. */
    private int guiltyCodes(int c, int facts) {
        law.seeWind(court.now[HOUR], court.now[QUARTER], court.now[FORCE]);
        law.seeCase(court.cases, c, court.cases.at(c, NEEDS));
        law.facts = facts;
        int found = 0;
        for (int q = 0; q < QUARTERS; q++) {
            if (law.isGuiltyBy(ruling(), q)) {
                found |= 1 << q;
            }
        }
        return found;
    }

    private boolean allAlike(int c, int facts) {
        int found = guiltyCodes(c, facts);
        return found == 0 || found == 15;
    }

    private int wrongRecords(Text text, int turn) {
        law.seeWind(court.now[HOUR], court.now[QUARTER], court.now[FORCE]);
        int wrong = 0;
        for (int i = 0; i < court.records.size; i++) {
            int c = court.records.at(i, OF_CASE);
            law.seeCase(court.cases, c, court.cases.at(c, NEEDS));
            boolean guilty = law.isGuiltyBy(text, (court.records.at(i, VANE_SHOWED) + turn) & 3);
            if (guilty != (court.records.at(i, SAID_GUILTY) == 1)) {
                wrong++;
            }
        }
        return wrong;
    }

    /** Writes the sets by which all that is learned is right into the row of fitting ones: how many. */
    private int gatherCodes() {
        int many = 0;
        for (int set = 0; set < FACT_SETS; set++) {
            if (fitsLearned(set)) {
                fitting[many] = set;
                many++;
            }
        }
        return many;
    }

    private boolean fitsLearned(int set) {
        for (int i = 0; i < court.learned.size; i++) {
            int facts = court.cases.at(court.learned.at(i, OF_CASE), FACTS);
            boolean guilty = (facts & set) == set;
            if (guilty != (court.learned.at(i, SAID_GUILTY) == 1)) {
                return false;
            }
        }
        return true;
    }

    private int guiltyByGathered(int facts, int many) {
        int guilty = 0;
        for (int i = 0; i < many && i < FACT_SETS; i++) {
            if ((facts & fitting[i]) == fitting[i]) {
                guilty++;
            }
        }
        return guilty;
    }

    /** Up to eight rows of four numbers. */
    private static final class Rows {
        private static final int WIDTH = 4;

        private final int[] cells = new int[ROWS * WIDTH];
        private int size;

        boolean isFull() {
            return size >= ROWS;
        }

        boolean has(int row) {
            return row >= 0 && row < size && row < ROWS;
        }

        int at(int row, int column) {
            return has(row) && column >= 0 && column < WIDTH ? cells[row * WIDTH + column] : NONE;
        }

        int add(int a, int b, int c, int d) {
            if (size >= 0 && size < ROWS) {
                cells[size * WIDTH] = a;
                cells[size * WIDTH + 1] = b;
                cells[size * WIDTH + 2] = c;
                cells[size * WIDTH + 3] = d;
                size++;
            }
            return size;
        }

        int sum(int set, int column) {
            int together = 0;
            for (int row = 0; row < size; row++) {
                if ((set >> row & 1) == 1) {
                    together += at(row, column);
                }
            }
            return together;
        }

        int empty() {
            size = 0;
            return size;
        }

        void copyFrom(Rows other) {
            System.arraycopy(other.cells, 0, cells, 0, cells.length);
            size = other.size;
        }
    }

    /** All that an image keeps: the state that steps take back, those steps, and what was told. */
    private static final class Court {
        private final int[] now = new int[STATE];
        private final int[] steps = new int[STEPS * STATE];
        private int stepCount;
        private int stepNext;
        private final Rows cases = new Rows();
        private final Rows records = new Rows();
        private final Rows learned = new Rows();
        private final Rows counsels = new Rows();
        private int texts;
        private int ruling = NONE;

        Court() {
            now[FORCE] = 3;
            now[X] = 107;
            now[IN_COURT] = NONE;
        }

        void copyFrom(Court other) {
            System.arraycopy(other.now, 0, now, 0, STATE);
            System.arraycopy(other.steps, 0, steps, 0, STEPS * STATE);
            stepCount = other.stepCount;
            stepNext = other.stepNext;
            cases.copyFrom(other.cases);
            records.copyFrom(other.records);
            learned.copyFrom(other.learned);
            counsels.copyFrom(other.counsels);
            texts = other.texts;
            ruling = other.ruling;
        }

        void keepStep() {
            System.arraycopy(now, 0, steps, stepNext * STATE, STATE);
            stepNext = (stepNext + 1) % STEPS;
            if (stepCount < STEPS) {
                stepCount++;
            }
        }

        boolean takeBack() {
            if (stepCount == 0) {
                return false;
            }
            stepCount--;
            stepNext = (stepNext + STEPS - 1) % STEPS;
            System.arraycopy(steps, stepNext * STATE, now, 0, STATE);
            return true;
        }

        int hoursLeft() {
            return LAST_HOUR - now[HOUR];
        }

        boolean isWaiting(int c) {
            return cases.has(c) && now[HOW + c] == WAITS;
        }

        boolean canBring(int c) {
            return isWaiting(c) && now[IN_COURT] == NONE;
        }

        void bring(int c) {
            if (cases.has(c)) {
                now[IN_COURT] = c;
                now[HOW + c] = HEARING;
            }
        }

        boolean canPutOff() {
            return now[IN_COURT] != NONE && now[DELAYS] < MOST_DELAYS;
        }

        void putOff() {
            now[DELAYS]++;
        }

        boolean canReopen(int c) {
            return cases.has(c) && now[HOW + c] == GUILTY && now[APPEALS + c] == 0;
        }

        void reopen(int c) {
            if (cases.has(c)) {
                now[HOW + c] = WAITS;
                now[SENTENCES + c] = 0;
                now[APPEALS + c] = 1;
            }
        }

        /** The case leaves the court, which is as empty then as at first. */
        void release(int c, int how) {
            if (cases.has(c)) {
                now[HOW + c] = how;
                now[IN_COURT] = NONE;
                now[HEARD] = 0;
                now[LAWS] = 0;
                now[DELAYS] = 0;
            }
        }

        private int drawX() {
            int x = now[X];
            now[X] = nextX(x);
            return x;
        }

        /** One hour passes: whether a case ended in it. */
        boolean passHour(Law law, Text text) {
            int c = now[IN_COURT];
            boolean ended = false;
            if (cases.has(c)) {
                now[HEARD]++;
                now[LAWS] |= 1 << now[QUARTER];
                ended = now[HEARD] >= cases.at(c, NEEDS) + now[DELAYS];
            }
            if (ended) {
                law.seeWind(now[HOUR], now[QUARTER], now[FORCE]);
                law.seeCase(cases, c, now[HEARD]);
                boolean calm = now[FORCE] == 0 || now[FOG] == 1;
                close(c, law.judged(text, calm, now[LAWS]));
            }
            law.turn(now, text, drawX() % 10);
            return ended;
        }

        private void close(int c, int sentence) {
            boolean guilty = sentence != NONE;
            release(c, guilty ? GUILTY : ACQUITTED);
            now[SENTENCES + c] = guilty ? sentence : 0;
            if (now[BOOKED] >= BOOK_ENTRIES) {
                System.arraycopy(now, BOOK + 1, now, BOOK, BOOK_ENTRIES - 1);
                now[BOOKED] = BOOK_ENTRIES - 1;
            }
            // One number an entry keeps the rows of the steps short.
            int entry = (now[HOUR] * 8 + c) * 2 + (guilty ? 1 : 0);
            now[BOOK + now[BOOKED]] = entry * 1000 + now[SENTENCES + c];
            now[BOOKED]++;
        }

        /** What one draw of decades brings. */
        void passDrawn(Law law, Text text) {
            int x = drawX();
            int c = cases.size > 0 ? x % cases.size : NONE;
            switch (x % 7) {
                case 0:
                case 1:
                    if (canBring(c)) {
                        bring(c);
                    }
                    break;
                case 2:
                    if (canPutOff()) {
                        putOff();
                    }
                    break;
                case 3:
                    if (canReopen(c)) {
                        reopen(c);
                    }
                    break;
                default:
                    if (hoursLeft() > 0) {
                        passHour(law, text);
                    }
                    break;
            }
        }
    }

    /** The kinds of tokens, which are the kinds of clauses and of a program's orders too. */
    private static final class Word {
        // In the order of the kinds; names are one behind the other in it.
        private static final String ALL = "code veers blows fogs sentence case call delay appeal gust withdraw hour quarter force draw kind gravity hours laws needs unless or and not fact most ";

        private static final int CODE = 0;
        private static final int VEERS = 1;
        private static final int FOGS = 3;
        private static final int SENTENCE = 4;
        private static final int CASE = 5;
        private static final int CALL = 6;
        private static final int DELAY = 7;
        private static final int APPEAL = 8;
        private static final int GUST = 9;
        private static final int WITHDRAW = 10;
        private static final int HOUR = 11;
        private static final int FORCE = 13;
        private static final int GRAVITY = 16;
        private static final int LAWS = 18;
        private static final int NEEDS = 19;
        private static final int UNLESS = 20;
        private static final int OR = 21;
        private static final int AND = 22;
        private static final int NOT = 23;
        private static final int FACT = 24;
        private static final int MOST = 25;
        // A sign of one byte is its own kind, from 35 to 62.
        private static final int AT_MOST = 70;
        private static final int AT_LEAST = 71;
        private static final int NUMBER = 72;
        private static final int END = 73;
        private static final int UNKNOWN = 74;
        private static final int NAME = 75;
        private static final int MINUS = 76;
    }

    /** What a law can ask by name, in the order of the words. */
    private static final class Name {
        private static final int HOUR = 0;
        private static final int QUARTER = 1;
        private static final int FORCE = 2;
        private static final int DRAW = 3;
        private static final int KIND = 4;
        private static final int GRAVITY = 5;
        private static final int HOURS = 6;
        private static final int LAWS = 7;
        private static final int MANY = 8;
    }

    /** The bytes that were fed, and the tokens that are in them. */
    private static final class Tape {
        private static final int MOST = 300;
        private static final int TOO_GREAT = 10000;

        private final int[] bytes = new int[MOST];
        private int length;
        // The end is a token too.
        private final int[] kinds = new int[MOST + 1];
        private final int[] places = new int[MOST + 1];
        private final int[] values = new int[MOST + 1];
        private int tokens;

        boolean hasRoom() {
            return length + 20 <= MOST;
        }

        void put(int word) {
            for (int shift = 24; shift >= 0; shift -= 8) {
                if (length < MOST) {
                    bytes[length] = word >>> shift & 255;
                    length++;
                }
            }
        }

        void scan() {
            tokens = 0;
            int at = 0;
            // Each turn takes one byte at least.
            for (int i = 0; i < MOST && at < length; i++) {
                int sign = bytes[at];
                if (sign == ' ' || sign == '\n') {
                    at++;
                } else if (isLetter(sign)) {
                    at = scanWord(at);
                } else if (isDigit(sign)) {
                    at = scanNumber(at);
                } else {
                    at = scanSign(at);
                }
            }
            addToken(Word.END, length, 0);
        }

        private void addToken(int kind, int place, int value) {
            if (tokens <= MOST) {
                kinds[tokens] = kind;
                places[tokens] = place;
                values[tokens] = value;
                tokens++;
            }
        }

        private static boolean isLetter(int sign) {
            return (sign >= 'a' && sign <= 'z') || (sign >= 'A' && sign <= 'Z');
        }

        private static boolean isDigit(int sign) {
            return sign >= '0' && sign <= '9';
        }

        private int scanNumber(int from) {
            int at = from;
            int value = 0;
            while (at < length && isDigit(bytes[at])) {
                value = Math.min(value * 10 + bytes[at] - '0', TOO_GREAT);
                at++;
            }
            addToken(Word.NUMBER, from, value);
            return at;
        }

        private int scanWord(int from) {
            int at = from;
            while (at < length && isLetter(bytes[at])) {
                at++;
            }
            addToken(wordAt(from, at), from, 0);
            return at;
        }

        private int wordAt(int from, int to) {
            int word = 0;
            int alike = from;
            for (int i = 0; i < Word.ALL.length(); i++) {
                char sign = Word.ALL.charAt(i);
                if (sign != ' ') {
                    // Beyond the token no sign can be alike any more, nor is its end come to.
                    alike = alike < to && bytes[alike] == sign ? alike + 1 : MOST + 1;
                } else if (alike == to) {
                    return word;
                } else {
                    word++;
                    alike = from;
                }
            }
            return Word.UNKNOWN;
        }

        private int scanSign(int from) {
            int sign = bytes[from];
            boolean wide = from + 1 < length && bytes[from + 1] == '=';
            if (wide && sign == '<') {
                addToken(Word.AT_MOST, from, 0);
                return from + 2;
            }
            if (wide && sign == '>') {
                addToken(Word.AT_LEAST, from, 0);
                return from + 2;
            }
            addToken(isSign(sign) ? sign : Word.UNKNOWN, from, 0);
            return from + 1;
        }

        private static boolean isSign(int sign) {
            switch (sign) {
                case '<':
                case '>':
                case '=':
                case '#':
                case '+':
                case '-':
                case '*':
                case '/':
                case '(':
                case ')':
                case ',':
                case ':':
                case ';':
                    return true;
                default:
                    return false;
            }
        }
    }

    /** A text as it was read: its clauses, and its laws as programs for a stack. */
    private static final class Text {
        private static final int CLAUSES = 24;
        private static final int CLAUSE_WIDTH = 4;
        // The laws are codes 0 to 3, then these.
        private static final int VEERS = 4;
        private static final int BLOWS = 5;
        private static final int FOGS = 6;
        private static final int SENTENCE = 7;
        private static final int LAW_KINDS = 8;

        // No token brings more than one order.
        private final int[] program = new int[Tape.MOST];
        private int size;
        private final int[] starts = new int[LAW_KINDS];
        private final int[] stops = new int[LAW_KINDS];
        private final int[] clauses = new int[CLAUSES * CLAUSE_WIDTH];
        private int clauseCount;
        private int factsAsked;

        void clear() {
            size = 0;
            clauseCount = 0;
            factsAsked = 0;
            for (int i = 0; i < LAW_KINDS; i++) {
                starts[i] = 0;
                stops[i] = 0;
            }
        }

        boolean has(int kind) {
            return kind >= 0 && kind < LAW_KINDS && stops[kind] > starts[kind];
        }

        void setLaw(int kind, int start) {
            if (kind >= 0 && kind < LAW_KINDS) {
                starts[kind] = start;
                stops[kind] = size;
            }
        }

        void emit(int order, int argument) {
            if (size < program.length) {
                program[size] = order << 14 | argument;
                size++;
            }
        }

        void emitFact(int fact) {
            factsAsked |= 1 << fact;
            emit(Word.FACT, fact);
        }

        void startClause(int word) {
            if (clauseCount < CLAUSES) {
                clauses[clauseCount * CLAUSE_WIDTH] = word;
                clauseCount++;
            }
        }

        void tellOfClause(int column, int value) {
            if (clauseCount > 0 && column >= 0 && column < CLAUSE_WIDTH) {
                clauses[(clauseCount - 1) * CLAUSE_WIDTH + column] = value;
            }
        }

        int clauseAt(int clause, int column) {
            boolean there = clause >= 0 && clause < clauseCount && column >= 0 && column < CLAUSE_WIDTH;
            return there ? clauses[clause * CLAUSE_WIDTH + column] : NONE;
        }
    }

    /** Reads the tokens of a tape as a text, up to the first fault. */
    private static final class Reader {
        private static final int MOST_OPEN = 8;
        private static final int MOST_PARTS = 6;

        private final Tape tape;
        private final Text text;
        private int at;
        private int kind;
        private int lawKind;
        private int number;
        private int fault;
        private int faultPlace;

        Reader(Tape tape, Text text) {
            this.tape = tape;
            this.text = text;
            at = NONE;
            faultPlace = NONE;
        }

        boolean readAll() {
            text.clear();
            advance();
            boolean fine = true;
            for (int i = 0; i <= Tape.MOST && fine && kind != Word.END; i++) {
                fine = readClause();
            }
            return fine;
        }

        private void advance() {
            // The end is never gone beyond.
            if (at + 1 < tape.tokens) {
                at++;
                kind = tape.kinds[at];
            }
        }

        private boolean refuse(int what) {
            fault = what;
            faultPlace = at >= 0 && at < tape.tokens ? tape.places[at] : tape.length;
            return false;
        }

        private boolean take(int wanted) {
            if (kind != wanted) {
                return refuse(1);
            }
            advance();
            return true;
        }

        private int valueHere() {
            return at >= 0 && at < tape.tokens ? tape.values[at] : NONE;
        }

        private boolean takeNumber(int low, int high) {
            if (kind != Word.NUMBER) {
                return refuse(1);
            }
            number = valueHere();
            if (number < low || number > high) {
                return refuse(2);
            }
            advance();
            return true;
        }

        private boolean takeTold(int column, int low, int high) {
            boolean fine = takeNumber(low, high);
            text.tellOfClause(column, number);
            return fine;
        }

        private boolean readClause() {
            int word = kind;
            if (word < Word.CODE || word > Word.HOUR) {
                return refuse(1);
            }
            boolean law = word <= Word.SENTENCE;
            if (law && word != Word.CODE && text.has(lawOf(word))) {
                return refuse(4);
            }
            if (text.clauseCount >= Text.CLAUSES) {
                return refuse(6);
            }
            text.startClause(word);
            advance();
            boolean fine = law ? readLaw(word) : readDeed(word);
            return fine && take(';');
        }

        private static int lawOf(int word) {
            return word - Word.VEERS + Text.VEERS;
        }

        private boolean readDeed(int word) {
            switch (word) {
                case Word.CASE:
                    return takeTold(1, 0, 5) && take(Word.GRAVITY) && takeTold(2, 1, 9)
                            && take(Word.NEEDS) && takeTold(3, 1, 9);
                case Word.CALL:
                case Word.APPEAL:
                    return takeTold(1, 0, ROWS - 1);
                case Word.GUST:
                    return takeTold(1, 0, QUARTERS - 1) && take(Word.FORCE) && takeTold(2, 0, 9);
                case Word.HOUR:
                    return takeTold(1, 1, HOURS_AT_ONCE);
                default:
                    return true;
            }
        }

        private boolean readLaw(int word) {
            lawKind = lawOf(word);
            if (word == Word.CODE && !readCodeHead()) {
                return false;
            }
            int start = text.size;
            boolean asks = word == Word.CODE || word == Word.FOGS;
            boolean fine = asks ? readEither(0) : readSum(0);
            if (fine && asks && kind == Word.UNLESS) {
                advance();
                fine = readEither(0);
                text.emit(Word.UNLESS, 0);
            }
            if (fine) {
                text.setLaw(lawKind, start);
            }
            return fine;
        }

        private boolean readCodeHead() {
            // A code that was told is a fault at its number, so it is asked ahead of taking it.
            int quarter = valueHere();
            if (kind == Word.NUMBER && quarter < QUARTERS && text.has(quarter)) {
                return refuse(4);
            }
            lawKind = quarter;
            return takeNumber(0, QUARTERS - 1) && take(':');
        }

        // The depth, here and below, is how many of ( not most - are open around what is read.
        private boolean readEither(int depth) {
            boolean fine = readBoth(depth);
            for (int i = 0; i < Tape.MOST && fine && kind == Word.OR; i++) {
                advance();
                fine = readBoth(depth);
                text.emit(Word.OR, 0);
            }
            return fine;
        }

        private boolean readBoth(int depth) {
            boolean fine = readAsk(depth);
            for (int i = 0; i < Tape.MOST && fine && kind == Word.AND; i++) {
                advance();
                fine = readAsk(depth);
                text.emit(Word.AND, 0);
            }
            return fine;
        }

        private boolean readAsk(int depth) {
            if (kind == Word.NOT) {
                return open(depth) && readNot(depth + 1);
            }
            if (kind == Word.MOST) {
                return open(depth) && readMost(depth + 1);
            }
            if (kind == Word.FACT) {
                return readFact();
            }
            if (!readSum(depth)) {
                return false;
            }
            int sign = kind;
            if (!compares(sign)) {
                return refuse(1);
            }
            advance();
            boolean fine = readSum(depth);
            text.emit(sign, 0);
            return fine;
        }

        private static boolean compares(int sign) {
            return sign == '<' || sign == '>' || sign == '=' || sign == '#'
                    || sign == Word.AT_MOST || sign == Word.AT_LEAST;
        }

        private boolean readFact() {
            if (lawKind >= QUARTERS) {
                return refuse(5);
            }
            advance();
            boolean fine = takeNumber(0, 7);
            text.emitFact(number);
            return fine;
        }

        private boolean open(int depth) {
            if (depth >= MOST_OPEN) {
                return refuse(3);
            }
            advance();
            return true;
        }

        private boolean readNot(int depth) {
            boolean fine = readAsk(depth);
            text.emit(Word.NOT, 0);
            return fine;
        }

        private boolean readMost(int depth) {
            boolean fine = take('(') && readEither(depth);
            int parts = 1;
            while (fine && kind == ',' && parts < MOST_PARTS) {
                advance();
                fine = readEither(depth);
                parts++;
            }
            if (fine && kind == ',') {
                return refuse(7);
            }
            text.emit(Word.MOST, parts);
            return fine && take(')');
        }

        private boolean readSum(int depth) {
            boolean fine = readProduct(depth);
            for (int i = 0; i < Tape.MOST && fine && (kind == '+' || kind == '-'); i++) {
                int sign = kind;
                advance();
                fine = readProduct(depth);
                text.emit(sign, 0);
            }
            return fine;
        }

        private boolean readProduct(int depth) {
            boolean fine = readOne(depth);
            for (int i = 0; i < Tape.MOST && fine && (kind == '*' || kind == '/'); i++) {
                int sign = kind;
                advance();
                fine = readOne(depth);
                text.emit(sign, 0);
            }
            return fine;
        }

        private boolean readOne(int depth) {
            if (kind == '(') {
                return open(depth) && readSum(depth + 1) && take(')');
            }
            if (kind == '-') {
                boolean fine = open(depth) && readOne(depth + 1);
                text.emit(Word.MINUS, 0);
                return fine;
            }
            if (kind >= Word.HOUR && kind <= Word.LAWS) {
                return readName(kind - Word.HOUR);
            }
            if (!takeNumber(0, 9999)) {
                return false;
            }
            text.emit(Word.NUMBER, number);
            return true;
        }

        private boolean readName(int name) {
            if (!isOfLaw(name)) {
                return refuse(5);
            }
            text.emit(Word.NAME, name);
            advance();
            return true;
        }

        private boolean isOfLaw(int name) {
            boolean ofCase = lawKind < QUARTERS || lawKind == Text.SENTENCE;
            switch (name) {
                case Name.DRAW:
                    return !ofCase;
                case Name.KIND:
                case Name.GRAVITY:
                case Name.HOURS:
                    return ofCase;
                case Name.LAWS:
                    return lawKind == Text.SENTENCE;
                default:
                    return true;
            }
        }
    }

    /** What the laws of a text answer about a wind and a case; a null text has none, as if nothing were told. */
    private static final class Law {
        private static final int GREATEST = 1000000;

        private final int[] names = new int[Name.MANY];
        private int facts;
        private final int[] stack = new int[Tape.MOST];

        void seeWind(int hour, int quarter, int force) {
            names[Name.HOUR] = hour;
            names[Name.QUARTER] = quarter;
            names[Name.FORCE] = force;
        }

        void seeCase(Rows cases, int c, int heard) {
            names[Name.KIND] = cases.at(c, KIND);
            names[Name.GRAVITY] = cases.at(c, GRAVITY);
            names[Name.HOURS] = heard;
            facts = cases.at(c, FACTS);
        }

        boolean isGuiltyBy(Text text, int quarter) {
            names[Name.QUARTER] = quarter;
            if (text != null && text.has(quarter)) {
                return worth(text, quarter) != 0;
            }
            return names[Name.GRAVITY] > quarter && (facts & 1) == 1;
        }

        /** The sentence of the case, if it ends in the wind that is seen; NONE if it is acquitted. */
        int judged(Text text, boolean calm, int laws) {
            int quarter = names[Name.QUARTER];
            boolean guilty = false;
            for (int q = 0; q < QUARTERS && !calm && !guilty; q++) {
                guilty = (laws >> q & 1) == 1 && isGuiltyBy(text, q);
            }
            // A code's quarter is its own; that of the sentence is the wind's.
            names[Name.QUARTER] = quarter;
            if (!guilty) {
                return NONE;
            }
            names[Name.LAWS] = Integer.bitCount(laws);
            if (text != null && text.has(Text.SENTENCE)) {
                return Math.max(0, Math.min(999, worth(text, Text.SENTENCE)));
            }
            return names[Name.GRAVITY] * names[Name.HOURS];
        }

        /** The wind becomes that of the next hour. */
        void turn(int[] wind, Text text, int draw) {
            if (wind.length < WIND) {
                return;
            }
            wind[HOUR]++;
            seeWind(wind[HOUR], wind[QUARTER], wind[FORCE]);
            names[Name.DRAW] = draw;
            wind[QUARTER] = Math.floorMod(wind[QUARTER] + veered(text), QUARTERS);
            names[Name.QUARTER] = wind[QUARTER];
            wind[FORCE] = blown(text);
            names[Name.FORCE] = wind[FORCE];
            wind[FOG] = isFoggy(text) ? 1 : 0;
        }

        private int veered(Text text) {
            if (text != null && text.has(Text.VEERS)) {
                return Math.max(-3, Math.min(3, worth(text, Text.VEERS)));
            }
            int draw = names[Name.DRAW];
            if (draw == 0) {
                return 1;
            }
            return draw == 1 ? -1 : 0;
        }

        private int blown(Text text) {
            if (text != null && text.has(Text.BLOWS)) {
                return Math.max(0, Math.min(9, worth(text, Text.BLOWS)));
            }
            return names[Name.DRAW];
        }

        private boolean isFoggy(Text text) {
            if (text != null && text.has(Text.FOGS)) {
                return worth(text, Text.FOGS) != 0;
            }
            return names[Name.FORCE] < 2 && names[Name.HOUR] % 10 < 3;
        }

        /** Runs the program of one law: its number, or 1 if it is so, 0 if it isn't. */
        private int worth(Text text, int kind) {
            if (!text.has(kind)) {
                return 0;
            }
            int size = 0;
            for (int i = text.starts[kind]; i < text.stops[kind] && i < text.program.length; i++) {
                int order = text.program[i] >> 14;
                int argument = text.program[i] & 16383;
                size -= order == Word.MOST ? argument : wants(order);
                if (size < 0 || size + 1 >= stack.length) {
                    return 0;
                }
                switch (order) {
                    case Word.NUMBER:
                        stack[size] = argument;
                        break;
                    case Word.NAME:
                        stack[size] = argument < names.length ? names[argument] : 0;
                        break;
                    case Word.FACT:
                        stack[size] = facts >> argument & 1;
                        break;
                    case Word.MOST:
                        stack[size] = mostAreSo(size, argument) ? 1 : 0;
                        break;
                    default:
                        stack[size] = joined(order, stack[size], stack[size + 1]);
                        break;
                }
                size++;
            }
            return stack[0];
        }

        /** How many numbers an order takes from the stack. */
        private static int wants(int order) {
            if (order == Word.NUMBER || order == Word.NAME || order == Word.FACT) {
                return 0;
            }
            return order == Word.NOT || order == Word.MINUS ? 1 : 2;
        }

        private boolean mostAreSo(int first, int many) {
            int so = 0;
            for (int i = first; i < first + many && i < stack.length; i++) {
                so += stack[i];
            }
            return 2 * so > many;
        }

        private static int joined(int order, int a, int b) {
            long found = 0;
            switch (order) {
                case Word.NOT:
                    return 1 - a;
                case Word.MINUS:
                    return -a;
                case Word.AND:
                    return a & b;
                case Word.OR:
                    return a | b;
                case Word.UNLESS:
                    return a & (1 - b);
                case '<':
                    return a < b ? 1 : 0;
                case '>':
                    return a > b ? 1 : 0;
                case '=':
                    return a == b ? 1 : 0;
                case '#':
                    return a != b ? 1 : 0;
                case Word.AT_MOST:
                    return a <= b ? 1 : 0;
                case Word.AT_LEAST:
                    return a >= b ? 1 : 0;
                case '+':
                    found = (long) a + b;
                    break;
                case '-':
                    found = (long) a - b;
                    break;
                case '*':
                    found = (long) a * b;
                    break;
                default:
                    found = b == 0 ? 0 : a / b;
                    break;
            }
            if (found > GREATEST) {
                return GREATEST;
            }
            return found < -GREATEST ? -GREATEST : (int) found;
        }
    }

    /** The winds of the hours that come, which no case changes, and what ends cases would have in them. */
    private static final class Foresight {
        private static final int NO_END = -2;
        private static final int GUILT = 100000;
        private static final int TURNS = 6;

        private final Court court;
        private final Law law;
        private Text text;
        // How many hours can pass of those that were asked for; the first wind is that of now.
        private int seen;
        private final int[] quarters = new int[HOURS_AT_ONCE + 1];
        private final int[] forces = new int[HOURS_AT_ONCE + 1];
        private final int[] fogs = new int[HOURS_AT_ONCE + 1];
        private final int[][] winds = new int[3][WIND];
        private final int[] worths = new int[MOST_DELAYS + 1];
        private final int[] order = new int[SESSION_CASES];
        private final int[] bestOrder = new int[SESSION_CASES];
        private int bestSum;

        Foresight(Court court, Law law) {
            this.court = court;
            this.law = law;
        }

        void look(Text ruling, int hours) {
            text = ruling;
            seen = Math.min(Math.min(hours, HOURS_AT_ONCE), court.hoursLeft());
            int[] wind = winds[0];
            System.arraycopy(court.now, 0, wind, 0, WIND);
            for (int i = 0; i <= seen; i++) {
                if (i > 0) {
                    law.turn(wind, text, wind[X] % 10);
                    wind[X] = nextX(wind[X]);
                }
                quarters[i] = wind[QUARTER];
                forces[i] = wind[FORCE];
                fogs[i] = wind[FOG];
            }
        }

        private boolean isCalm(int i) {
            return i >= 0 && i <= HOURS_AT_ONCE && (forces[i] == 0 || fogs[i] == 1);
        }

        int longestCalm() {
            int longest = 0;
            int run = 0;
            for (int i = 0; i < seen; i++) {
                run = isCalm(i) ? run + 1 : 0;
                longest = Math.max(longest, run);
            }
            return longest;
        }

        int hoursOf(int quarter) {
            int many = 0;
            for (int i = 0; i < seen; i++) {
                if (quarters[i] == quarter) {
                    many++;
                }
            }
            return many;
        }

        /** The sentence of a case heard from the start for so many hours: NONE if acquitted, or NO_END. */
        int endOf(int c, int start, int heard) {
            if (start < 0 || heard < 1 || start + heard > seen) {
                return NO_END;
            }
            int last = start + heard - 1;
            int laws = 0;
            for (int i = start; i <= last; i++) {
                laws |= 1 << quarters[i];
            }
            law.seeWind(court.now[HOUR] + last, quarters[last], forces[last]);
            law.seeCase(court.cases, c, heard);
            return law.judged(text, isCalm(last), laws);
        }

        /** The best call as 4 * k + d. */
        int soonest(int c, boolean guilty) {
            int needs = court.cases.at(c, NEEDS);
            for (int late = 0; late <= LATEST_CALL + MOST_DELAYS; late++) {
                for (int k = Math.max(0, late - MOST_DELAYS); k <= Math.min(late, LATEST_CALL); k++) {
                    int sentence = endOf(c, k, needs + late - k);
                    if (sentence != NO_END && (sentence != NONE) == guilty) {
                        return 4 * k + late - k;
                    }
                }
            }
            return NONE;
        }

        int gravest(int c) {
            int needs = court.cases.at(c, NEEDS);
            int greatest = 0;
            for (int k = 0; k <= LATEST_CALL; k++) {
                for (int d = 0; d <= MOST_DELAYS; d++) {
                    greatest = Math.max(greatest, endOf(c, k, needs + d));
                }
            }
            return greatest;
        }

        /** By how many of all draws of the hours left (but the last one's, which comes too late) it is guilty. */
        int guiltyWays(Text ruling, int c, int left) {
            text = ruling;
            System.arraycopy(court.now, 0, winds[0], 0, WIND);
            return waysFrom(0, left, c, court.now[HEARD], court.now[LAWS]);
        }

        private int waysFrom(int depth, int left, int c, int heardYet, int lawsYet) {
            if (depth < 0 || depth >= winds.length) {
                return 0;
            }
            int[] wind = winds[depth];
            int heard = heardYet + 1;
            int laws = lawsYet | 1 << wind[QUARTER];
            if (left <= 1) {
                law.seeWind(wind[HOUR], wind[QUARTER], wind[FORCE]);
                law.seeCase(court.cases, c, heard);
                return law.judged(text, wind[FORCE] == 0 || wind[FOG] == 1, laws) == NONE ? 0 : 1;
            }
            int ways = 0;
            for (int draw = 0; draw < 10 && depth + 1 < winds.length; draw++) {
                System.arraycopy(wind, 0, winds[depth + 1], 0, WIND);
                law.turn(winds[depth + 1], text, draw);
                ways += waysFrom(depth + 1, left - 1, c, heard, laws);
            }
            return ways;
        }

        /** Twice what comes by best play, and one more if the first who chooses delays. */
        int duel(int c, boolean accuserFirst) {
            for (int d = 0; d <= MOST_DELAYS; d++) {
                int sentence = endOf(c, 0, court.cases.at(c, NEEDS) + d);
                worths[d] = sentence >= 0 ? GUILT + sentence : 0;
            }
            boolean delays = false;
            for (int turn = TURNS - 1; turn >= 0; turn--) {
                boolean accuser = (turn % 2 == 0) == accuserFirst;
                // From few delays on, so that the worth of one more is still that behind this turn.
                for (int d = 0; d < MOST_DELAYS; d++) {
                    boolean better = accuser ? worths[d + 1] > worths[d] : worths[d + 1] < worths[d];
                    delays = d == 0 ? better : delays;
                    worths[d] = better ? worths[d + 1] : worths[d];
                }
            }
            return 2 * worths[0] + (delays ? 1 : 0);
        }

        void arrangeAll(int cases) {
            bestSum = NONE;
            arrange(0, cases, 0, 0);
        }

        // Orders are tried from the lowest case on, and only a greater sum is better: of like ones the lowest stays.
        private void arrange(int placed, int left, int start, int sum) {
            if (left == 0) {
                if (sum > bestSum) {
                    bestSum = sum;
                    System.arraycopy(order, 0, bestOrder, 0, SESSION_CASES);
                }
                return;
            }
            if (placed < 0 || placed >= SESSION_CASES) {
                return;
            }
            for (int c = 0; c < ROWS; c++) {
                if ((left >> c & 1) == 1) {
                    int needs = court.cases.at(c, NEEDS);
                    int sentence = endOf(c, start, needs);
                    // Behind a case that doesn't end none is called.
                    int next = sentence == NO_END ? HOURS_AT_ONCE : start + needs;
                    order[placed] = c;
                    arrange(placed + 1, left & ~(1 << c), next, sum + Math.max(sentence, 0));
                }
            }
        }
    }
}
