import java.util.ArrayList;
import java.util.List;

/** The bounds of part III: what is foretold, ends, the best call, odds, clashes, games and sessions. */
public final class BoundsOfForesightTest extends Trial {
    /** Each quarter turns, each force and fog tells its hour apart. */
    private static final String RESTLESS = "veers draw-4;blows draw/2+hour-hour/5*5;fogs draw=8;";

    public static void main(String[] args) {
        foretoldAsItComes();
        foretoldOthers();
        foretoldUpTo9999();
        endsOfThoseThatWait();
        endsOthers();
        endsUpTo9999();
        endsWithTheOneInCourt();
        bestIsSoonest();
        bestOthers();
        bestUpTo9999();
        harshest();
        harshestOthers();
        oddsToGo();
        oddsInLowestTerms();
        oddsAtTheEnd();
        clash();
        leastFacts();
        games();
        gamesOthers();
        sessionSets();
        sessionOrder();
        sessionUpTo9999();
        questionsChangeNothing();
        finish();
    }

    // ---------------------------------------------------------------- foretold

    private static void foretoldAsItComes() {
        says("FORETOLD behind n HOURS (1 .. 60): QUARTER, FORCE, FOG");
        VaneCourt x = ruledBy(RESTLESS);
        VaneCourt y = ruledBy(RESTLESS);
        VaneCourt without = new VaneCourt();
        VaneCourt lived = new VaneCourt();
        for (int n = 1; n <= 60; n++) {
            y.hour(1);
            lived.hour(1);
            for (int what = 0; what < 3; what++) {
                due("behind " + n + " " + what, x.foretold(n, what), y.is(what));
                due("without a text behind " + n, without.foretold(n, what), lived.is(what));
            }
        }
        due("no hour passed", x.is(3), 0);
        due("no draw", x.is(4), 107);
    }

    private static void foretoldOthers() {
        says("foretold: NONE for others");
        VaneCourt x = ruledBy("veers 1;blows 5;fogs 1=1;");
        for (int n : new int[] {0, -1, 61, 62, LOW, HIGH}) {
            for (int what = 0; what < 3; what++) {
                due("behind " + n, x.foretold(n, what), NONE);
            }
        }
        for (int what : new int[] {-1, 3, LOW, HIGH}) {
            due("what " + what, x.foretold(1, what), NONE);
            due("what " + what, x.foretold(60, what), NONE);
        }
        due("the first", x.foretold(1, 0), 1);
        due("the last", x.foretold(60, 1), 5);
        due("fog", x.foretold(60, 2), 1);
    }

    private static void foretoldUpTo9999() {
        says("FORETOLD .. 9999 bounds it as ever");
        for (int left = 0; left <= 61; left += left == 3 ? 56 : 1) {
            VaneCourt x = ruledBy("veers 1;blows hour-hour/10*10;fogs hour=9999;");
            passTo(x, 9999 - left);
            for (int n : new int[] {1, 2, 3, 4, 58, 59, 60}) {
                int hour = Math.min(9999, 9999 - left + n);
                due("quarter " + n + " behind " + (9999 - left), x.foretold(n, 0), hour % 4);
                due("force " + n + " behind " + (9999 - left), x.foretold(n, 1), hour % 10);
                due("fog " + n + " behind " + (9999 - left), x.foretold(n, 2), hour == 9999 ? 1 : 0);
            }
            due("none", x.foretold(0, 0), NONE);
            due("none", x.foretold(61, 0), NONE);
        }
    }

    // ---------------------------------------------------------------- ends

    private static void endsOfThoseThatWait() {
        says("AN END: that of a CASE that waits");
        VaneCourt x = ruledBy(STILL);
        x.newCase(0, 9, 1, 1);
        x.newCase(0, 9, 1, 0);
        x.newCase(0, 9, 3, 1);
        x.call(0);
        x.hour(1);
        x.call(1);
        x.hour(1);
        x.call(2);
        int[] due = {NONE, NONE, NONE, NONE, NONE, NONE, NONE, NONE, NONE};
        for (int c = -1; c <= 7; c++) {
            due("guilty, acquitted, in court, not told: " + c, x.ends(c, 0, 0, 0), due[c + 1]);
            due("game " + c, x.game(c, true, false), NONE);
            due("best " + c, x.best(c, true, 0), NONE);
            due("harshest " + c, x.harshest(c), NONE);
        }
        x.appeal(0);
        due("it appealed and waits", x.ends(0, 0, 0, 0), 1);
        x.withdraw();
        due("withdrawn, it waits", x.ends(2, 0, 0, 0), 3);
    }

    private static void endsOthers() {
        says("k HOURS (0 .. 20), DELAYED d times (0 .. 3): 0 HOURS, 1 VERDICT, 2 SENTENCE. NONE for others");
        for (int needs = 1; needs <= 9; needs += 4) {
            VaneCourt x = ruledBy(STILL + "sentence hour*20+hours;");
            x.newCase(0, 9, needs, 1);
            for (int k = -1; k <= 21; k++) {
                for (int d = -1; d <= 4; d++) {
                    boolean told = k >= 0 && k <= 20 && d >= 0 && d <= 3;
                    int heard = needs + d;
                    due("hours " + k + " " + d, x.ends(0, k, d, 0), told ? k + heard : NONE);
                    due("sentence " + k + " " + d, x.ends(0, k, d, 2), told ? (k + heard - 1) * 20 + heard : NONE);
                }
            }
            due("verdict", x.ends(0, 20, 3, 1), 1);
        }
        VaneCourt y = ruledBy(STILL);
        y.newCase(0, 9, 1, 0);
        for (int what = -1; what <= 3; what++) {
            due("what " + what, y.ends(0, 0, 0, what), what == -1 || what == 3 ? NONE : what == 0 ? 1 : 0);
        }
        for (int odd : new int[] {LOW, HIGH}) {
            due("others", y.ends(odd, 0, 0, 0), NONE);
            due("others", y.ends(0, odd, 0, 0), NONE);
            due("others", y.ends(0, 0, odd, 0), NONE);
            due("others", y.ends(0, 0, 0, odd), NONE);
        }
    }

    private static void endsUpTo9999() {
        says("none (9999 is come to)");
        for (int left = 0; left <= 5; left++) {
            VaneCourt x = ruledBy(STILL + "sentence hour-9990;");
            x.newCase(0, 9, 2, 1);
            passTo(x, 9999 - left);
            for (int k = 0; k <= 3; k++) {
                for (int d = 0; d <= 3; d++) {
                    int hours = k + 2 + d;
                    boolean ends = hours <= left;
                    due("hours, " + left + " left", x.ends(0, k, d, 0), ends ? hours : NONE);
                    due("verdict, " + left + " left", x.ends(0, k, d, 1), ends ? 1 : NONE);
                    due("sentence, " + left + " left", x.ends(0, k, d, 2), ends ? 8 - left + hours : NONE);
                }
            }
            due("k 20", x.ends(0, 20, 0, 0), NONE);
        }
    }

    private static void endsWithTheOneInCourt() {
        says("the one in court is WITHDRAWN then, if there is one; APPEALS, other CASES aside");
        VaneCourt x = ruledBy(STILL);
        x.newCase(0, 9, 9, 1);
        x.newCase(0, 8, 2, 1);
        x.call(0);
        x.delay();
        x.hour(4);
        due("hours", x.ends(1, 0, 0, 0), 2);
        due("sentence", x.ends(1, 0, 0, 2), 16);
        due("with three delays of its own", x.ends(1, 0, 3, 0), 5);
        due("called later than the other would end", x.ends(1, 20, 0, 0), 22);
        due("it is in court yet", x.is(5), 0);
        due("heard", x.is(6), 4);
        due("delays", x.is(8), 1);
    }

    // ---------------------------------------------------------------- best, harshest

    private static void bestIsSoonest() {
        says("the one that ends soonest; of like ones the least k: k, d, the HOURS; none");
        for (int hour = 0; hour <= 25; hour++) {
            VaneCourt x = ruledBy(STILL + "code 0:hour=" + hour + ";");
            x.newCase(0, 9, 1, 0);
            boolean can = hour <= 23;
            int k = Math.max(0, hour - 3);
            due("k of " + hour, x.best(0, true, 0), can ? k : NONE);
            due("d of " + hour, x.best(0, true, 1), can ? hour - k : NONE);
            due("hours of " + hour, x.best(0, true, 2), can ? hour + 1 : NONE);
            due("acquitted k", x.best(0, false, 0), 0);
            due("acquitted d", x.best(0, false, 1), hour == 0 ? 1 : 0);
            due("acquitted hours", x.best(0, false, 2), hour == 0 ? 2 : 1);
        }
        for (int heard = 1; heard <= 13; heard++) {
            VaneCourt x = ruledBy(STILL + "code 0:hours=" + heard + ";");
            x.newCase(0, 9, 9, 0);
            boolean can = heard >= 9 && heard <= 12;
            due("k by " + heard + " heard", x.best(0, true, 0), can ? 0 : NONE);
            due("d by " + heard + " heard", x.best(0, true, 1), can ? heard - 9 : NONE);
            due("hours by " + heard + " heard", x.best(0, true, 2), can ? heard : NONE);
        }
        VaneCourt y = ruledBy(STILL + "code 0:hour=10 and hours<3 or hour=11;");
        y.newCase(0, 9, 2, 0);
        due("soonest, not the least k", y.best(0, true, 0), 9);
        due("no delay", y.best(0, true, 1), 0);
        due("hours", y.best(0, true, 2), 11);
    }

    private static void bestOthers() {
        says("best: NONE: none, and for others");
        VaneCourt x = ruledBy(STILL + "code 0:1=1;code 1:1=1;code 2:1=1;code 3:1=1;");
        x.newCase(0, 9, 1, 0);
        for (int what = 0; what < 3; what++) {
            due("never acquitted", x.best(0, false, what), NONE);
        }
        for (int what : new int[] {-1, 3, LOW, HIGH}) {
            due("what " + what, x.best(0, true, what), NONE);
        }
        for (int c : new int[] {-1, 1, 8, LOW, HIGH}) {
            due("case " + c, x.best(c, true, 0), NONE);
        }
        due("guilty", x.best(0, true, 2), 1);
    }

    private static void bestUpTo9999() {
        says("BEST CALL: of all k, d by which a CASE ends (9999 bounds it)");
        for (int left = 0; left <= 4; left++) {
            VaneCourt x = ruledBy(STILL + "code 0:hours=2;");
            x.newCase(0, 9, 1, 0);
            passTo(x, 9999 - left);
            due("acquitted, " + left + " left", x.best(0, false, 2), left >= 1 ? 1 : NONE);
            due("guilty, " + left + " left", x.best(0, true, 2), left >= 2 ? 2 : NONE);
            due("by a delay, " + left + " left", x.best(0, true, 1), left >= 2 ? 1 : NONE);
        }
    }

    private static void harshest() {
        says("HARSHEST: of all of these ends the greatest SENTENCE (0 without)");
        for (int needs = 1; needs <= 9; needs++) {
            VaneCourt x = ruledBy(STILL + "sentence hour*20+hours;");
            x.newCase(0, 9, needs, 1);
            due("by k 20, d 3", x.harshest(0), (20 + needs + 2) * 20 + needs + 3);
            VaneCourt y = ruledBy(STILL + "sentence 900-hour*20-hours;");
            y.newCase(0, 9, needs, 1);
            due("by k 0, d 0", y.harshest(0), 900 - (needs - 1) * 20 - needs);
        }
        VaneCourt z = ruledBy(STILL + "sentence 0;");
        z.newCase(0, 9, 1, 1);
        z.newCase(0, 9, 1, 0);
        due("guilty without a sentence", z.harshest(0), 0);
        due("always acquitted", z.harshest(1), 0);
        VaneCourt v = ruledBy(STILL + "sentence hour-9990;");
        v.newCase(0, 9, 2, 1);
        passTo(v, 9997);
        due("two hours left", v.harshest(0), 8);
        v.hour(1);
        due("one hour left: no end", v.harshest(0), 0);
        v.hour(1);
        due("no hour left: no end", v.harshest(0), 0);
        VaneCourt w = ruledBy("veers 0;blows 5;fogs hour#13;sentence hour;");
        w.newCase(0, 9, 1, 1);
        w.hour(1);
        due("of those that end guilty", w.harshest(0), 13);
    }

    private static void harshestOthers() {
        says("harshest: NONE for others");
        VaneCourt x = ruledBy(STILL);
        due("no case", x.harshest(0), NONE);
        addCases(x, 8, 9, 1, 1);
        for (int c : new int[] {-1, 8, LOW, HIGH}) {
            due("case " + c, x.harshest(c), NONE);
        }
        due("the last", x.harshest(7), 36);
        due("the first", x.harshest(0), 36);
    }

    // ---------------------------------------------------------------- odds

    private static void oddsToGo() {
        says("ODDS .. if it has at most 3 HOURS to go; NONE, if none is in court, or has more to go");
        VaneCourt x = ruledBy(STILL);
        x.newCase(0, 9, 5, 1);
        due("none in court", x.odds(false), NONE);
        due("none in court", x.odds(true), NONE);
        x.call(0);
        for (int left = 5; left >= 1; left--) {
            due("upper, " + left + " to go", x.odds(false), left <= 3 ? 1 : NONE);
            due("lower, " + left + " to go", x.odds(true), left <= 3 ? 1 : NONE);
            x.hour(1);
        }
        due("it ended", x.odds(true), NONE);
        VaneCourt y = ruledBy(STILL);
        y.newCase(0, 9, 1, 1);
        y.call(0);
        for (int d = 0; d <= 3; d++) {
            due("with " + d + " delays", y.odds(true), d <= 2 ? 1 : NONE);
            y.delay();
        }
        y.withdraw();
        due("withdrawn", y.odds(true), NONE);
        VaneCourt z = ruledBy(STILL);
        z.newCase(0, 9, 9, 1);
        z.call(0);
        z.delay();
        z.delay();
        z.delay();
        z.hour(8);
        due("four of twelve to go", z.odds(false), NONE);
        z.hour(1);
        due("three of twelve to go", z.odds(false), 1);
    }

    private static void oddsInLowestTerms() {
        says("D of each HOUR 0 .. 9 alike likely; in lowest terms");
        int[][] terms = {{1, 1}, {9, 10}, {4, 5}, {7, 10}, {3, 5}, {1, 2}, {2, 5}, {3, 10}, {1, 5}, {1, 10}, {0, 1}};
        for (int fogs = 0; fogs <= 10; fogs++) {
            for (int needs = 2; needs <= 3; needs++) {
                VaneCourt x = ruledBy("veers 0;blows 5;fogs draw<" + fogs + ";");
                x.newCase(0, 9, needs, 1);
                x.call(0);
                due("upper by " + fogs, x.odds(false), terms[fogs][0]);
                due("lower by " + fogs, x.odds(true), terms[fogs][1]);
            }
        }
        VaneCourt y = ruledBy("veers draw/9;blows 5;fogs 1=0;code 0:1=0;code 1:1=1;code 2:1=0;code 3:1=0;");
        y.newCase(0, 9, 3, 1);
        y.call(0);
        due("quarter 1 in one of two hours", y.odds(false), 19);
        due("of a hundred", y.odds(true), 100);
        for (int force = 0; force <= 1; force++) {
            VaneCourt z = ruledBy("veers 0;blows 0;");
            z.newCase(0, 9, 1, 1);
            z.gust(1, force);
            z.call(0);
            due("one hour to go: by the wind as now", z.odds(false), force);
            due("of one", z.odds(true), 1);
        }
        VaneCourt v = ruledBy("veers 0;blows force+draw/8;fogs 1=0;code 0:force=2;");
        v.newCase(0, 9, 3, 1);
        v.gust(0, 1);
        v.call(0);
        due("one of two draws is 8 or 9", v.odds(false), 8);
        due("by 32 of 100", v.odds(true), 25);
    }

    private static void oddsAtTheEnd() {
        says("ODDS (9999 aside)");
        for (int left = 0; left <= 3; left++) {
            VaneCourt x = ruledBy("veers 0;blows 5;fogs draw<3;");
            x.newCase(0, 9, 3, 1);
            passTo(x, 9999 - left);
            x.gust(0, 4);
            x.call(0);
            due("upper, " + left + " left", x.odds(false), 7);
            due("lower, " + left + " left", x.odds(true), 10);
        }
    }

    // ---------------------------------------------------------------- clash, least facts

    private static void clash() {
        says("CLASH: of a CASE (hours as NEEDS, the wind as now). NONE for others");
        VaneCourt x = ruledBy(STILL + "code 0:hours=9;code 1:force=0;code 2:hour=4;code 3:hours=1;");
        due("no case", x.clash(0), NONE);
        x.newCase(0, 1, 9, 0);
        x.newCase(0, 1, 8, 0);
        x.newCase(0, 1, 1, 0);
        int[] due = {1, 0, 8};
        for (int c = 0; c < 3; c++) {
            due("of case " + c, x.clash(c), due[c]);
        }
        for (int c : new int[] {-1, 3, 7, 8, LOW, HIGH}) {
            due("others " + c, x.clash(c), NONE);
        }
        x.call(0);
        x.delay();
        x.hour(4);
        due("in court, hour 4", x.clash(0), 5);
        x.gust(0, 0);
        due("in a calm", x.clash(0), 7);
        x.withdraw();
        x.call(2);
        x.hour(1);
        due("acquitted", x.ofCase(2, 4), 2);
        due("one that ended, in hour 5", x.clash(2), 10);
    }

    private static void leastFacts() {
        says("LEAST FACTS that would have to be otherwise, so that all four codes say alike; of like ones the lowest set; none");
        String three = "code 1:1=1;code 2:1=1;code 3:1=1;";
        least("code 0:1=1;" + three, 0, 0);
        least("code 0:fact 7 or fact 0 and fact 1;" + three, 0, 128);
        least("code 0:fact 6 or fact 3 or fact 5;" + three, 0, 8);
        least("code 0:fact 1 and fact 6 or fact 0 and fact 7 or fact 2 and fact 5;" + three, 0, 36);
        least("code 0:fact 1 and fact 6 or fact 0 and fact 7 or fact 2 and fact 5;" + three, 64, 2);
        least("code 0:1=0;" + three, 0, NONE);
        least("code 0:1=0;" + three, 255, NONE);
        least("code 0:not fact 3;" + three, 255, 8);
        least("code 0:not fact 3;" + three, 8, 8);
        least("code 0:fact 0;code 1:1=0;code 2:1=0;code 3:1=0;", 1, 1);
        least("code 0:fact 0;code 1:1=0;code 2:1=0;code 3:1=0;", 254, 0);
        least("code 0:fact 4;code 1:not fact 4;code 2:fact 1;code 3:fact 1;", 0, NONE);
        least("code 0:fact 0 and fact 1 and fact 2 and fact 3 and fact 4 and fact 5 and fact 6 and fact 7;" + three, 0, 255);
        least("code 0:fact 0 and fact 1 and fact 2 and fact 3 and fact 4 and fact 5 and fact 6 and fact 7;" + three, 1, 254);
        says("LEAST FACTS by codes as they are without");
        for (int gravity = 1; gravity <= 5; gravity++) {
            VaneCourt x = new VaneCourt();
            x.newCase(0, gravity, 1, 255);
            x.newCase(0, gravity, 1, 254);
            due("with fact 0, gravity " + gravity, x.leastFacts(0), gravity >= 4 ? 0 : 1);
            due("without fact 0", x.leastFacts(1), 0);
        }
        least("code 3:fact 7;", 0, 0);
        least("code 3:fact 7;", 1, 1);
        least("code 3:fact 7;", 128, 1);
        says("leastFacts: NONE for others");
        VaneCourt y = new VaneCourt();
        due("no case", y.leastFacts(0), NONE);
        addCases(y, 2, 1, 1, 1);
        for (int c : new int[] {-1, 2, 8, LOW, HIGH}) {
            due("others " + c, y.leastFacts(c), NONE);
        }
        due("the last", y.leastFacts(1), 1);
        y.call(0);
        due("in court", y.leastFacts(0), 1);
    }

    /** Of a case of gravity 9, so that codes that aren't told ask for fact 0 alone. */
    private static void least(String codes, int facts, int due) {
        VaneCourt x = ruledBy(codes);
        x.newCase(0, 9, 1, facts);
        due(codes + " of " + facts, x.leastFacts(0), due);
    }

    // ---------------------------------------------------------------- games

    private static void games() {
        says("they choose by turns, three times each, to DELAY (if DELAYS are fewer than 3) or not");
        for (int table = 0; table < 256; table++) {
            int[] t = {table & 3, table >> 2 & 3, table >> 4 & 3, table >> 6};
            VaneCourt x = gameOf(t);
            for (int first = 0; first < 2; first++) {
                boolean accuser = first == 0;
                int stay = comes(t, !accuser, 1, 0);
                int go = comes(t, !accuser, 1, 1);
                boolean delays = accuser ? go > stay : go < stay;
                due("what comes of " + table, x.game(0, accuser, false), delays ? go : stay);
                due("of like ones not, of " + table, x.game(0, accuser, true), delays ? 1 : 0);
            }
        }
        says("100000 for guilty and the SENTENCE; an end that isn't: 0");
        VaneCourt y = ruledBy(STILL + "code 0:1=1;sentence 999;");
        y.newCase(0, 1, 1, 0);
        due("the greatest", y.game(0, false, false), 100999);
        VaneCourt z = ruledBy(STILL + "code 0:1=1;sentence 0;");
        z.newCase(0, 1, 1, 0);
        due("the least guilty", z.game(0, true, false), 100000);
        VaneCourt v = ruledBy(STILL + "code 0:1=0;sentence 999;");
        v.newCase(0, 1, 1, 0);
        due("acquitted", v.game(0, true, false), 0);
        for (int left = 0; left <= 6; left++) {
            VaneCourt w = ruledBy(STILL + "code 0:1=1;sentence hours*100;");
            w.newCase(0, 1, 2, 0);
            passTo(w, 9999 - left);
            int[] t = new int[4];
            for (int d = 0; d < 4; d++) {
                t[d] = 2 + d <= left ? (2 + d) * 100 : 0;
            }
            due("by accuser, " + left + " left", w.game(0, true, false), comes(t, true, 0, 0));
            due("by defender, " + left + " left", w.game(0, false, false), comes(t, false, 0, 0));
        }
    }

    /** The sentences by 0 to 3 delays (0: acquitted) of a case that needs one hour. */
    private static VaneCourt gameOf(int[] t) {
        StringBuilder text = new StringBuilder(STILL).append("code 0:1=0");
        for (int d = 0; d < 4; d++) {
            text.append(t[d] > 0 ? " or hours=" + (d + 1) : "");
        }
        text.append(";sentence ").append(t[0]);
        String[] atLeast = {"(hours/2-hours/4)", "(hours/3)", "(hours/4)"};
        for (int d = 1; d < 4; d++) {
            int more = t[d] - t[d - 1];
            text.append(more < 0 ? "-" : "+").append(Math.abs(more)).append("*").append(atLeast[d - 1]);
        }
        VaneCourt x = ruledBy(text.append(";").toString());
        x.newCase(0, 1, 1, 0);
        return x;
    }

    private static int comes(int[] t, boolean accuser, int turn, int delays) {
        if (turn == 6) {
            return t[delays] == 0 ? 0 : 100000 + t[delays];
        }
        int stay = comes(t, !accuser, turn + 1, delays);
        if (delays == 3) {
            return stay;
        }
        int go = comes(t, !accuser, turn + 1, delays + 1);
        return accuser ? Math.max(stay, go) : Math.min(stay, go);
    }

    private static void gamesOthers() {
        says("game: NONE for others");
        VaneCourt x = ruledBy(STILL);
        due("no case", x.game(0, true, false), NONE);
        addCases(x, 8, 9, 9, 1);
        for (int c : new int[] {-1, 8, LOW, HIGH}) {
            due("what comes, case " + c, x.game(c, true, false), NONE);
            due("delays, case " + c, x.game(c, false, true), NONE);
        }
        due("the last", x.game(7, true, false), 100108);
        due("the accuser delays", x.game(7, true, true), 1);
    }

    // ---------------------------------------------------------------- sessions

    private static void sessionSets() {
        says("A SESSION: a set of 1 to 5 CASES that wait: the sum (i NONE), the i-th CASE. -2 for others");
        VaneCourt x = ruledBy(STILL + "sentence gravity;");
        for (int c = 0; c < 8; c++) {
            x.newCase(0, c + 1, 1, 1);
        }
        for (int set = 0; set < 256; set += 5) {
            int many = Integer.bitCount(set);
            int sum = 0;
            for (int c = 0; c < 8; c++) {
                sum += (set >> c & 1) * (c + 1);
            }
            due("sum of " + set, x.session(set, NONE), many >= 1 && many <= 5 ? sum : -2);
        }
        due("none", x.session(0, NONE), -2);
        due("one", x.session(128, NONE), 8);
        due("five", x.session(0b10101011, NONE), 21);
        due("six", x.session(0b10101111, NONE), -2);
        due("eight", x.session(255, NONE), -2);
        for (int set : new int[] {256, 257, -1, -256, LOW, HIGH, 1 << 31 | 1}) {
            due("no set " + set, x.session(set, NONE), -2);
            due("no set " + set, x.session(set, 0), -2);
        }
        int[] five = {0, 1, 3, 5, 7};
        for (int i = -2; i <= 5; i++) {
            due("the i-th " + i, x.session(0b10101011, i), i == -1 ? 21 : i < 0 || i > 4 ? -2 : five[i]);
        }
        due("the i-th of one", x.session(16, 0), 4);
        due("the second of one", x.session(16, 1), -2);
        due("others", x.session(16, HIGH), -2);
        due("others", x.session(16, LOW), -2);
        x.call(0);
        due("in court", x.session(1, NONE), -2);
        due("the others, it is withdrawn", x.session(6, NONE), 5);
        x.hour(1);
        due("one that ended", x.session(3, NONE), -2);
        x.appeal(0);
        due("it waits again", x.session(3, NONE), 3);
        VaneCourt y = ruledBy(STILL);
        addCases(y, 2, 5, 1, 1);
        due("one that isn't told", y.session(4, NONE), -2);
        due("one of them isn't told", y.session(7, NONE), -2);
        due("both", y.session(3, NONE), 10);
    }

    private static void sessionOrder() {
        says("the order by which most SENTENCES come together; of like ones the lowest first CASE, then the second");
        String[] texts = {RESTLESS + "sentence (hour+1)*gravity;", "sentence 99-hour*gravity;", STILL + "sentence 7;",
            STILL + "code 0:hour=8 or hour=3;sentence gravity;"};
        int[][] needs = {{1, 2, 3, 4, 5}, {2, 2, 1, 1, 3}, {1, 1, 1, 1, 1}, {4, 5, 4, 1, 9}};
        for (int t = 0; t < texts.length; t++) {
            int[] best = new int[1];
            List<Integer> order = new ArrayList<>();
            best[0] = NONE;
            liveThrough(texts[t], needs[t], new ArrayList<>(), best, order);
            VaneCourt x = courtOf(texts[t], needs[t]);
            due("sum of " + t, x.session(62, NONE), best[0]);
            for (int i = 0; i < 5; i++) {
                due("the i-th of " + t, x.session(62, i), order.get(i));
            }
        }
    }

    private static VaneCourt courtOf(String text, int[] needs) {
        VaneCourt x = ruledBy(text);
        x.newCase(0, 9, 9, 0);
        for (int i = 0; i < needs.length; i++) {
            x.newCase(i, 9 - i, needs[i], 1);
        }
        return x;
    }

    /** Cases 1 to 5 in each order, by hand. */
    private static void liveThrough(String text, int[] needs, List<Integer> order, int[] best, List<Integer> bestOrder) {
        if (order.size() == needs.length) {
            VaneCourt x = courtOf(text, needs);
            int sum = 0;
            for (int c : order) {
                x.call(c);
                x.hour(needs[c - 1]);
                sum += x.ofCase(c, 5);
            }
            if (sum > best[0]) {
                best[0] = sum;
                bestOrder.clear();
                bestOrder.addAll(order);
            }
            return;
        }
        for (int c = 1; c <= needs.length; c++) {
            if (!order.contains(c)) {
                order.add(c);
                liveThrough(text, needs, order, best, bestOrder);
                order.remove(order.size() - 1);
            }
        }
    }

    private static void sessionUpTo9999() {
        says("A SESSION, as 9999 is come to: each next one as the one ahead ended");
        for (int left = 0; left <= 7; left++) {
            VaneCourt x = ruledBy(STILL + "sentence gravity;");
            x.newCase(0, 9, 5, 1);
            x.newCase(0, 1, 1, 1);
            x.newCase(0, 3, 2, 1);
            passTo(x, 9999 - left);
            int[] sums = {0, 1, 3, 4, 4, 9, 10, 12};
            due("sum, " + left + " left", x.session(7, NONE), sums[left]);
        }
        VaneCourt y = ruledBy(STILL + "sentence gravity;");
        y.newCase(0, 9, 9, 1);
        y.newCase(0, 1, 9, 1);
        passTo(y, 9999);
        due("no hour left", y.session(3, NONE), 0);
        due("of like ones the lowest", y.session(3, 0), 0);
        due("the second", y.session(3, 1), 1);
        due("no third", y.session(3, 2), -2);
    }

    // ---------------------------------------------------------------- nothing changes

    private static void questionsChangeNothing() {
        says("All that follows changes nothing");
        Call[] questions = {x -> x.foretold(60, 0), x -> x.ends(0, 20, 3, 2), x -> x.best(0, true, 0),
            x -> x.best(0, false, 2), x -> x.harshest(0), x -> x.odds(false), x -> x.odds(true), x -> x.clash(2),
            x -> x.leastFacts(0), x -> x.game(0, true, false), x -> x.game(0, false, true), x -> x.session(9, NONE),
            x -> x.session(9, 1), x -> x.turned(), x -> x.fewestWrong(), x -> x.whose(), x -> x.codes(NONE),
            x -> x.codes(0), x -> x.sure(0), x -> x.toBring(), x -> x.hired(5, true), x -> x.calm(60),
            x -> x.standing(60, 1), x -> x.ofCase(0, 0), x -> x.is(0), x -> x.book(0, 0), x -> x.about(0), x -> x.fault(0)};
        String due = everything(amidst());
        for (int i = 0; i < questions.length; i++) {
            VaneCourt x = amidst();
            long first = questions[i].on(x);
            due("asked again, question " + i, questions[i].on(x), first);
            due("it is answered, question " + i, first >= 0 || i >= 18 && i <= 19, true);
            alike("behind question " + i, everything(x), due);
            x.hour(3);
            VaneCourt y = amidst();
            y.hour(3);
            alike("the hours behind question " + i, sitting(x), sitting(y));
        }
    }

    /** A court with some of all: a case that waits, one guilty, one in court with two hours to go, an image behind. */
    private static VaneCourt amidst() {
        VaneCourt x = ruledBy("veers draw-4;blows draw/2+1;fogs draw=8;sentence hour+7;");
        x.newCase(1, 9, 2, 3);
        x.newCase(2, 9, 1, 1);
        x.newCase(3, 8, 3, 5);
        x.newCase(4, 7, 4, 1);
        x.call(1);
        x.hour(1);
        x.image();
        x.call(2);
        x.delay();
        x.hour(2);
        x.record(0, 1, true);
        x.learn(0, true);
        x.counsel(5, 9);
        read(x, "veers kind;");
        x.feed(1, 2, 3, 4, 5);
        return x;
    }
}
