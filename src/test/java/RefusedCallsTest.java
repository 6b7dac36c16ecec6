/** Each call that is refused answers so and changes nothing; the nearest that isn't refused is done. */
public final class RefusedCallsTest extends Trial {
    private static final int[] FAR = {LOW, LOW + 1, -1000, 1000, 65536, HIGH - 1, HIGH};

    private static String before = "";

    public static void main(String[] args) {
        before = everything(amidst());
        telling();
        texts();
        deeds();
        hoursAndDecades();
        tellsOfCases();
        tellsOfTheWind();
        tellsOfWhatComes();
        tellsOfCodes();
        tellsOfRecords();
        tellsOfCounsel();
        full();
        empty();
        finish();
    }

    /**
     * Case 0 waits, 1 is guilty, 2 in court with DELAYS 1 and five hours to go, 3 acquitted, 4 waits, 5 is guilty for
     * the second time; there is no case 6, no text 2, no entry 4 in the book.
     */
    private static VaneCourt amidst() {
        VaneCourt x = ruledBy("veers 1;blows 5;fogs 1=0;sentence 7;");
        read(x, "delay;");
        x.newCase(1, 5, 2, 1);
        x.newCase(2, 4, 1, 1);
        x.newCase(3, 9, 6, 5);
        x.newCase(4, 9, 1, 0);
        x.newCase(5, 9, 3, 255);
        x.newCase(0, 9, 1, 1);
        int[] heard = {1, 3, 5};
        for (int c : heard) {
            x.call(c);
            x.hour(1);
        }
        x.appeal(5);
        x.call(5);
        x.hour(1);
        x.call(2);
        x.delay();
        x.image();
        x.hour(2);
        x.record(0, 1, true);
        x.learn(0, true);
        x.learn(3, false);
        x.counsel(5, 5);
        read(x, "veers kind;");
        x.feed(0x20202020, 0x20202020, 0x20202020, 0x20202020, 0x20202020);
        return x;
    }

    private static void refused(String what, Call call, long answer) {
        VaneCourt x = amidst();
        due(what, call.on(x), answer);
        alike("all behind " + what, everything(x), before);
    }

    private static void done(String what, Call call, long answer) {
        due(what, call.on(amidst()), answer);
    }

    private static long one(boolean so) {
        return so ? 1 : 0;
    }

    // ---------------------------------------------------------------- 2 to 7

    private static void telling() {
        says("newCase: NONE for others");
        int[][] least = {{0, 1, 1, 0}, {5, 9, 9, 255}};
        for (int part = 0; part < 4; part++) {
            for (int side = 0; side < 2; side++) {
                int[] told = {2, 3, 4, 5};
                told[part] = least[side][part];
                done("newCase at the edge", x -> x.newCase(told[0], told[1], told[2], told[3]), 6);
                int[] beyond = told.clone();
                beyond[part] += side == 0 ? -1 : 1;
                refused("newCase beyond the edge", x -> x.newCase(beyond[0], beyond[1], beyond[2], beyond[3]), NONE);
            }
            for (int far : FAR) {
                int[] told = {2, 3, 4, 5};
                told[part] = far;
                refused("newCase of " + far, x -> x.newCase(told[0], told[1], told[2], told[3]), NONE);
            }
        }
        says("end: NONE, and nothing is done, if it has not so many, or n is below 0");
        done("end 0", x -> x.end(0), 0);
        done("end 20", x -> x.end(20), 20);
        refused("end 21", x -> x.end(21), NONE);
        refused("end -1", x -> x.end(-1), NONE);
        for (int far : FAR) {
            refused("end " + far, x -> x.end(far), NONE);
        }
    }

    private static void texts() {
        says("by: False for others");
        for (int text = -1; text <= 1; text++) {
            int told = text;
            done("by " + told, x -> one(x.by(told)), 1);
        }
        refused("by -2", x -> one(x.by(-2)), 0);
        refused("by 2", x -> one(x.by(2)), 0);
        refused("by 4", x -> one(x.by(4)), 0);
        says("played: -2 for others");
        done("played 0", x -> x.played(0), NONE);
        done("played 1", x -> x.played(1), NONE);
        refused("played -1", x -> x.played(-1), -2);
        refused("played 2", x -> x.played(2), -2);
        refused("played 4", x -> x.played(4), -2);
        says("fault: NONE for others");
        refused("fault -1", x -> x.fault(-1), NONE);
        refused("fault 0", x -> x.fault(0), 5);
        refused("fault 1", x -> x.fault(1), 6);
        refused("fault 2", x -> x.fault(2), NONE);
        for (int far : FAR) {
            refused("by " + far, x -> one(x.by(far)), 0);
            refused("played " + far, x -> x.played(far), -2);
            refused("fault " + far, x -> x.fault(far), NONE);
        }
    }

    // ---------------------------------------------------------------- 8 to 16

    private static void deeds() {
        says("call: False, if it can't be, and for others");
        for (int c = -2; c <= 9; c++) {
            int told = c;
            refused("call " + told + ", as one is in court", x -> one(x.call(told)), 0);
            boolean waits = c == 0 || c == 2 || c == 4;
            done("call " + told + ", as none is", x -> x.withdraw() + one(x.call(told)), 2 + one(waits));
        }
        says("appeal: False, if it can't be, and for others");
        for (int c = -2; c <= 9; c++) {
            int told = c;
            if (c == 1) {
                done("appeal of the guilty one", x -> one(x.appeal(told)), 1);
            } else {
                refused("appeal " + told, x -> one(x.appeal(told)), 0);
            }
        }
        for (int far : FAR) {
            refused("call " + far, x -> one(x.call(far)), 0);
            refused("appeal " + far, x -> one(x.appeal(far)), 0);
        }
        says("gust: False for others, and if both are so");
        int[][] good = {{0, 0}, {3, 9}, {0, 9}, {3, 0}};
        int[][] bad = {{-1, 0}, {4, 0}, {0, -1}, {0, 10}, {-1, -1}, {4, 10}, {LOW, 0}, {HIGH, 0}, {0, LOW}, {0, HIGH}};
        for (int[] g : good) {
            done("gust at the edge", x -> one(x.gust(g[0], g[1])), 1);
        }
        for (int[] b : bad) {
            refused("gust beyond the edge", x -> one(x.gust(b[0], b[1])), 0);
        }
        int quarter = amidst().is(0);
        int force = amidst().is(1);
        refused("gust as it is", x -> one(x.gust(quarter, force)), 0);
        done("another quarter", x -> one(x.gust(3 - quarter, force)), 1);
        done("another force", x -> one(x.gust(quarter, force + 1)), 1);
    }

    private static void hoursAndDecades() {
        says("hour: NONE for others");
        done("hour 1", x -> x.hour(1), 0);
        done("hour 4", x -> x.hour(4), 0);
        done("hour 5", x -> x.hour(5), 1);
        done("hour 60", x -> x.hour(60), 1);
        int[] bad = {0, -1, 61};
        for (int n : bad) {
            refused("hour " + n, x -> x.hour(n), NONE);
        }
        says("decades: NONE for others");
        done("decades 0, 1", x -> x.decades(0, 1), 6);
        done("decades 9999, 40", x -> one(x.decades(9999, 40) >= 6), 1);
        int[][] others = {{-1, 1}, {10000, 1}, {0, 0}, {0, 41}, {-1, 0}, {10000, 41}};
        for (int[] b : others) {
            refused("decades " + b[0] + ", " + b[1], x -> x.decades(b[0], b[1]), NONE);
        }
        for (int far : FAR) {
            refused("hour " + far, x -> x.hour(far), NONE);
            refused("decades 0, " + far, x -> x.decades(0, far), NONE);
            if (far < 0 || far > 9999) {
                refused("decades " + far, x -> x.decades(far, 1), NONE);
            }
        }
    }

    // ---------------------------------------------------------------- 17 to 20

    private static void tellsOfCases() {
        says("ofCase: NONE for others");
        int[][] told = {{1, 5, 2, 1, 0, 0, 0}, {2, 4, 1, 1, 3, 7, 0}, {3, 9, 6, 5, 1, 0, 0}, {4, 9, 1, 0, 2, 0, 0},
            {5, 9, 3, 255, 0, 0, 0}, {0, 9, 1, 1, 3, 7, 1}};
        for (int c = -2; c <= 9; c++) {
            for (int what = -2; what <= 8; what++) {
                boolean there = c >= 0 && c < 6 && what >= 0 && what < 7;
                due("ofCase " + c + " " + what, amidst().ofCase(c, what), there ? told[c][what] : NONE);
            }
        }
        says("book: -2 if there is none such, and for others");
        int[][] entries = {{0, 1, 1, 7}, {1, 3, 0, 0}, {2, 5, 1, 7}, {3, 5, 1, 7}};
        for (int i = -2; i <= 5; i++) {
            for (int what = -1; what <= 4; what++) {
                boolean there = i >= 0 && i < 4 && what >= 0 && what < 4;
                if (i != NONE) {
                    due("book " + i + " " + what, amidst().book(i, what), there ? entries[i][what] : -2);
                }
            }
        }
        due("how many", amidst().book(NONE, 0), 4);
        for (int far : FAR) {
            refused("ofCase " + far, x -> x.ofCase(far, 0), NONE);
            refused("ofCase 0 " + far, x -> x.ofCase(0, far), NONE);
            refused("book " + far, x -> x.book(far, 0), -2);
            refused("book 0 " + far, x -> x.book(0, far), -2);
        }
    }

    private static void tellsOfTheWind() {
        says("is: -2 for others");
        VaneCourt x = amidst();
        int[] now = {2, 5, 0, 6, x.is(4), 2, 2, 3, 1};
        for (int what = -2; what <= 10; what++) {
            due("is " + what, x.is(what), what < 0 || what > 8 ? -2 : now[what]);
        }
        says("about: -2 for others");
        int[] counts = {6, 2, 0, 13, 1, 2, 1, 20};
        for (int what = -2; what <= 9; what++) {
            due("about " + what, x.about(what), what < 0 || what > 7 ? -2 : counts[what]);
        }
        for (int far : FAR) {
            refused("is " + far, y -> y.is(far), -2);
            refused("about " + far, y -> y.about(far), -2);
        }
    }

    private static void tellsOfWhatComes() {
        says("foretold, calm, standing: NONE for others");
        int[] no = {0, -1, 61};
        for (int n : no) {
            refused("foretold " + n, x -> x.foretold(n, 0), NONE);
            refused("calm " + n, x -> x.calm(n), NONE);
            refused("standing " + n, x -> x.standing(n, 0), NONE);
        }
        for (int what : new int[] {-1, 3}) {
            refused("foretold 1 " + what, x -> x.foretold(1, what), NONE);
        }
        for (int quarter : new int[] {-1, 4}) {
            refused("standing 1 " + quarter, x -> x.standing(1, quarter), NONE);
        }
        done("foretold 1", x -> x.foretold(1, 0), 3);
        done("foretold 60", x -> x.foretold(60, 1), 5);
        done("calm 1", x -> x.calm(1), 0);
        done("calm 60", x -> x.calm(60), 0);
        done("standing 1", x -> x.standing(1, 2), 1);
        done("standing 60", x -> x.standing(60, 3), 15);
        for (int far : FAR) {
            refused("foretold " + far, x -> x.foretold(far, 0), NONE);
            refused("foretold 1 " + far, x -> x.foretold(1, far), NONE);
            refused("calm " + far, x -> x.calm(far), NONE);
            refused("standing " + far, x -> x.standing(far, 0), NONE);
            refused("standing 1 " + far, x -> x.standing(1, far), NONE);
        }
    }

    // ---------------------------------------------------------------- 21 to 28

    private static void tellsOfCodes() {
        says("ends, best, harshest, game: of a CASE that waits; NONE for others");
        for (int c = -2; c <= 9; c++) {
            boolean waits = c == 0 || c == 4;
            int told = c;
            int needs = c == 0 ? 2 : 3;
            refused("ends " + c, x -> x.ends(told, 0, 0, 0), waits ? needs : NONE);
            refused("best " + c, x -> x.best(told, true, 2), waits ? needs : NONE);
            refused("harshest " + c, x -> x.harshest(told), waits ? 7 : NONE);
            refused("game " + c, x -> x.game(told, true, false), waits ? 100007 : NONE);
            refused("game " + c, x -> x.game(told, false, true), waits ? 0 : NONE);
            says("clash, leastFacts: of a CASE; NONE for others");
            int[] clashes = {15, 15, 15, 0, 15, 15};
            refused("clash " + c, x -> x.clash(told), c >= 0 && c < 6 ? clashes[c] : NONE);
            refused("leastFacts " + c, x -> x.leastFacts(told), c >= 0 && c < 6 ? 0 : NONE);
        }
        says("session: -2 for others");
        for (int set = 0; set < 64; set++) {
            int told = set;
            int sum = set == 1 || set == 16 ? 7 : set == 17 ? 14 : -2;
            due("session " + set, amidst().session(told, NONE), sum);
        }
        int[][] bad = {{0, 0}, {1, 1}, {1, -2}, {17, 2}, {2, 0}, {4, 0}, {8, 0}, {32, 0}, {64, 0}, {128, 0}, {256, 0},
            {257, 0}, {-1, 0}, {LOW + 1, 0}};
        for (int[] b : bad) {
            refused("session " + b[0] + " " + b[1], x -> x.session(b[0], b[1]), -2);
        }
        for (int far : FAR) {
            refused("session " + far, x -> x.session(far, NONE), -2);
            refused("session 1 " + far, x -> x.session(1, far), -2);
            refused("clash " + far, x -> x.clash(far), NONE);
            refused("leastFacts " + far, x -> x.leastFacts(far), NONE);
        }
        says("odds: NONE, if it has more to go");
        refused("five to go", x -> x.odds(false), NONE);
        refused("five to go", x -> x.odds(true), NONE);
        done("three to go", x -> x.hour(2) + x.odds(true), 1);
    }

    // ---------------------------------------------------------------- 29 to 38

    private static void tellsOfRecords() {
        says("record, learn: -2 for others");
        for (int c = -2; c <= 9; c++) {
            int told = c;
            if (c >= NONE && c < 6) {
                done("record " + c, x -> x.record(told, 0, true), c == NONE ? 0 : 2);
                done("learn " + c, x -> x.learn(told, true), c == NONE ? 0 : 3);
            } else {
                refused("record " + c, x -> x.record(told, 0, true), -2);
                refused("learn " + c, x -> x.learn(told, true), -2);
            }
        }
        for (int quarter = -1; quarter <= 4; quarter++) {
            int told = quarter;
            if (quarter < 0 || quarter > 3) {
                refused("record 0 " + quarter, x -> x.record(0, told, true), -2);
            } else {
                done("record 0 " + quarter, x -> x.record(0, told, true), 2);
            }
        }
        says("codes, sure: NONE for others");
        refused("codes -2", x -> x.codes(-2), NONE);
        refused("codes 0", x -> x.codes(0), 1);
        refused("codes 1: there is one alone", x -> x.codes(1), NONE);
        int[] sure = {1, 1, 1, 0, 1, 1};
        for (int c = -2; c <= 9; c++) {
            int told = c;
            refused("sure " + c, x -> x.sure(told), c >= 0 && c < 6 ? sure[c] : NONE);
        }
        refused("toBring: none", x -> x.toBring(), NONE);
        for (int far : FAR) {
            refused("record " + far, x -> x.record(far, 0, true), -2);
            refused("record 0 " + far, x -> x.record(0, far, true), -2);
            refused("learn " + far, x -> x.learn(far, true), -2);
            refused("codes " + far, x -> x.codes(far), NONE);
            refused("sure " + far, x -> x.sure(far), NONE);
        }
    }

    private static void tellsOfCounsel() {
        says("counsel: -2 for others");
        int[][] good = {{1, 0}, {999, 99}, {1, 99}, {999, 0}};
        int[][] bad = {{0, 0}, {1000, 0}, {-2, 0}, {1, -1}, {1, 100}, {0, 100}};
        for (int[] g : good) {
            done("counsel at the edge", x -> x.counsel(g[0], g[1]), 2);
        }
        for (int[] b : bad) {
            refused("counsel " + b[0] + " " + b[1], x -> x.counsel(b[0], b[1]), -2);
        }
        done("counsel NONE", x -> x.counsel(NONE, 0), 0);
        says("hired: NONE for others");
        int[][] hired = {{-1, NONE}, {0, 0}, {4, 0}, {5, 5}, {9999, 5}, {10000, NONE}};
        for (int[] h : hired) {
            refused("hired " + h[0], x -> x.hired(h[0], false), h[1]);
            refused("who " + h[0], x -> x.hired(h[0], true), h[1] == 5 ? 1 : h[1]);
        }
        for (int far : FAR) {
            if (far != 1000) {
                refused("hired " + far, x -> x.hired(far, false), far < 0 || far > 9999 ? NONE : 5);
            }
            refused("counsel " + far, x -> x.counsel(far, 1), -2);
            refused("counsel 1 " + far, x -> x.counsel(1, far), -2);
        }
    }

    // ---------------------------------------------------------------- full and empty

    private static VaneCourt filled() {
        VaneCourt x = new VaneCourt();
        for (int i = 0; i < 4; i++) {
            read(x, "blows " + (i + 1) + ";");
        }
        addCases(x, 8, 9, 9, 1);
        x.call(7);
        for (int i = 0; i < 3; i++) {
            x.delay();
        }
        for (int i = 0; i < 8; i++) {
            x.record(i, i % 4, true);
            x.learn(i, true);
            x.counsel(i + 1, i);
        }
        for (int i = 0; i < 15; i++) {
            x.feed(0x20202020, 0x20202020, 0x20202020, 0x20202020, 0x20202020);
        }
        return x;
    }

    private static void full() {
        says("if there are 8; if there are 4; if there would be more than 300; if DELAYS are fewer than 3");
        String all = everything(filled());
        Call[] calls = {x -> x.newCase(0, 1, 1, 0), x -> x.feed(0, 0, 0, 0, 0), x -> x.text(), x -> x.delay(),
            x -> x.record(0, 0, true), x -> x.learn(0, true), x -> x.counsel(1, 1)};
        int[] answers = {NONE, NONE, NONE, NONE, -2, -2, -2};
        for (int i = 0; i < calls.length; i++) {
            VaneCourt x = filled();
            due("full, call " + i, calls[i].on(x), answers[i]);
            alike("all behind it", everything(x), all);
        }
    }

    private static void empty() {
        says("of a new object: nothing can be that needs a CASE, a TEXT or a STEP");
        String all = everything(new VaneCourt());
        Call[] calls = {x -> one(x.by(0)), x -> one(x.call(0)), x -> one(x.appeal(0)), x -> one(x.gust(0, 3)),
            x -> x.delay(), x -> x.withdraw(), x -> x.played(0), x -> x.decades(0, 1), x -> x.undo(),
            x -> x.ofCase(0, 0), x -> x.book(0, 0), x -> x.ends(0, 0, 0, 0), x -> x.best(0, true, 0), x -> x.harshest(0),
            x -> x.odds(false), x -> x.odds(true), x -> x.clash(0), x -> x.leastFacts(0), x -> x.game(0, true, false),
            x -> x.session(1, NONE), x -> x.record(0, 0, true), x -> x.learn(0, true), x -> x.sure(0), x -> x.toBring(),
            x -> x.end(1), x -> x.fault(0), x -> x.fault(1)};
        int[] answers = {0, 0, 0, 0, NONE, NONE, -2, NONE, NONE, NONE, -2, NONE, NONE, NONE, NONE, NONE, NONE, NONE, NONE,
            -2, -2, -2, NONE, NONE, NONE, NONE, NONE};
        for (int i = 0; i < calls.length; i++) {
            VaneCourt x = new VaneCourt();
            due("empty, call " + i, calls[i].on(x), answers[i]);
            alike("all behind it", everything(x), all);
        }
        says("by: (NONE: none); record, learn, counsel: (NONE: none any more); whose, turned, fewestWrong, codes, hired");
        VaneCourt x = new VaneCourt();
        due("by NONE", x.by(NONE), true);
        due("record NONE", x.record(NONE, 0, true), 0);
        due("learn NONE", x.learn(NONE, true), 0);
        due("counsel NONE", x.counsel(NONE, 0), 0);
        due("whose", x.whose(), 0);
        due("turned", x.turned(), 15);
        due("fewestWrong", x.fewestWrong(), 0);
        due("codes", x.codes(NONE), 256);
        due("hired", x.hired(0, false), 0);
        due("book", x.book(NONE, 0), 0);
        alike("all behind it", everything(x), all);
    }
}
