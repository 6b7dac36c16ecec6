/** The bounds that "Terms" names: the wind, hours, cases, who is in court, steps; each on both sides. */
public final class BoundsOfTermsTest extends Trial {
    public static void main(String[] args) {
        atFirst();
        cases();
        quartersWrap();
        hoursEnd();
        drawsWrap();
        callingWaits();
        delays();
        appeals();
        gusts();
        withdrawing();
        hearing();
        laws();
        calmAndFog();
        oneLawAtLeast();
        sentences();
        windOfTheEnd();
        bookOfEnds();
        stepsAreCounted();
        stepsAreThirty();
        stepsGoBack();
        casesToldSince();
        whatNoStepTakesBack();
        finish();
    }

    private static void atFirst() {
        says("at first 0, 3, none; HOUR at first 0; X: at first 107; in court at first none");
        VaneCourt x = new VaneCourt();
        alike("a new court", everything(x), "is 0 3 0 0 107 -1 0 0 0, book of 0:, about 0 0 -1 0 0 0 0,"
                + " records 15 0 0, codes 256 0 1, hired 0 0, foretold " + x.foretold(60, 0) + " " + x.foretold(60, 1)
                + ", tape 0, fault -1 -1");
        says("THE IMAGE is this");
        x.newCase(0, 1, 1, 0);
        read(x, "blows 9;");
        x.by(0);
        x.hour(1);
        x.record(0, 0, true);
        x.learn(0, true);
        x.counsel(1, 1);
        due("back", x.back(), 0);
        alike("the first image", kept(x), kept(new VaneCourt()));
    }

    private static void cases() {
        says("CASES 0 .. 7 (told one by one)");
        VaneCourt x = new VaneCourt();
        for (int c = 0; c < 8; c++) {
            due("none such ahead of it", x.ofCase(c, 0), NONE);
            due("its number", x.newCase(c % 6, c + 1, 9 - c, 255 - c), c);
            due("how many", x.about(0), c + 1);
        }
        due("a ninth", x.newCase(0, 1, 1, 0), NONE);
        due("how many", x.about(0), 8);
        for (int c = 0; c < 8; c++) {
            due("kind", x.ofCase(c, 0), c % 6);
            due("gravity", x.ofCase(c, 1), c + 1);
            due("needs", x.ofCase(c, 2), 9 - c);
            due("facts", x.ofCase(c, 3), 255 - c);
            due("waits", x.ofCase(c, 4), 0);
        }
        says("KIND 0 .. 5, GRAVITY 1 .. 9, NEEDS 1 .. 9 HOURS, FACTS (8 bits)");
        int[][] least = {{0, 1, 1, 0}, {5, 9, 9, 255}};
        for (int[] e : least) {
            VaneCourt y = new VaneCourt();
            due("an edge", y.newCase(e[0], e[1], e[2], e[3]), 0);
            for (int what = 0; what < 4; what++) {
                due("of it " + what, y.ofCase(0, what), e[what]);
            }
        }
        int[][] beyond = {{-1, 1, 1, 0}, {6, 1, 1, 0}, {0, 0, 1, 0}, {0, 10, 1, 0}, {0, 1, 0, 0}, {0, 1, 10, 0},
            {0, 1, 1, -1}, {0, 1, 1, 256}};
        for (int[] b : beyond) {
            VaneCourt y = new VaneCourt();
            due("beyond", y.newCase(b[0], b[1], b[2], b[3]), NONE);
            due("no case came", y.about(0), 0);
        }
    }

    private static void quartersWrap() {
        says("QUARTER is more by that mod 4");
        for (int by = -3; by <= 3; by++) {
            VaneCourt x = ruledBy("veers " + by + ";blows 5;fogs 1=0;");
            for (int from = 0; from < 4; from++) {
                x.gust(from, 1);
                x.hour(1);
                due("from " + from + " by " + by, x.is(0), (from + by + 4) % 4);
            }
        }
        says("veers: -3 at least, 3 at most");
        int[][] beyond = {{4, 3}, {5, 3}, {9999, 3}, {-4, 1}, {-5, 1}, {-9999, 1}, {3, 3}, {-3, 1}};
        for (int[] b : beyond) {
            due("by " + b[0], ruledBy("veers " + b[0] + ";").foretold(1, 0), b[1]);
        }
    }

    private static void hoursEnd() {
        says("HOUR 0 .. 9999");
        VaneCourt x = new VaneCourt();
        passTo(x, 9938);
        due("60 of 61 that are left", x.hour(60), 0);
        due("hour", x.is(3), 9998);
        due("two of the one that is left", x.hour(2), NONE);
        due("nothing is done", x.is(3), 9998);
        due("the last", x.hour(1), 0);
        due("hour", x.is(3), 9999);
        String then = sitting(x);
        due("one more", x.hour(1), NONE);
        due("sixty more", x.hour(60), NONE);
        alike("nothing is done", sitting(x), then);
        VaneCourt y = new VaneCourt();
        passTo(y, 9939);
        due("all 60 that are left", y.hour(60), 0);
        due("hour", y.is(3), 9999);
        VaneCourt z = new VaneCourt();
        passTo(z, 9940);
        due("60 of 59 that are left", z.hour(60), NONE);
        due("hour", z.is(3), 9940);
        due("59 of 59", z.hour(59), 0);
        due("an hour is taken back from 9999", z.undo(), 29);
        due("hour", z.is(3), 9998);
        due("it passes again", z.hour(1), 0);
    }

    private static void drawsWrap() {
        says("D is a draw by 10 (X mod 10, X becoming (X * 331 + 223) mod 30389 behind it)");
        VaneCourt x = ruledBy("veers 0;blows draw;fogs draw=9;");
        long at = 107;
        for (int i = 0; i < 100; i++) {
            x.hour(1);
            due("force is the draw", x.is(1), at % 10);
            due("a draw of 9", x.is(2), at % 10 == 9 ? 1 : 0);
            at = (at * 331 + 223) % 30389;
            due("X", x.is(4), at);
        }
    }

    private static void callingWaits() {
        says("CALLED: a CASE that waits, if none is in court: HEARD 0, LAWS none, DELAYS 0");
        VaneCourt x = ruledBy(STILL);
        addCases(x, 2, 5, 2, 1);
        x.newCase(0, 5, 1, 0);
        due("it waits", x.call(0), true);
        due("it is in court", x.call(0), false);
        due("another is in court", x.call(1), false);
        due("the other waits on", x.ofCase(1, 4), 0);
        x.delay();
        x.hour(1);
        x.withdraw();
        due("it waits again", x.call(0), true);
        due("heard", x.is(6), 0);
        due("laws", x.is(7), 0);
        due("delays", x.is(8), 0);
        due("two hours end it", x.hour(2), 1);
        due("guilty", x.call(0), false);
        due("another, as none is in court", x.call(2), true);
        x.hour(1);
        due("acquitted", x.call(2), false);
        x.appeal(0);
        due("it appealed", x.call(0), true);
        due("heard", x.is(6), 0);
    }

    private static void delays() {
        says("DELAYED: the CASE in court, if DELAYS are fewer than 3");
        VaneCourt x = ruledBy(STILL);
        addCases(x, 2, 5, 9, 1);
        due("none in court", x.delay(), NONE);
        x.call(0);
        for (int d = 1; d <= 3; d++) {
            due("delay", x.delay(), d);
            due("delays", x.is(8), d);
        }
        due("a fourth", x.delay(), NONE);
        due("delays", x.is(8), 3);
        due("steps", x.about(3), 4);
        x.hour(1);
        due("a fourth, an hour later", x.delay(), NONE);
        x.undo();
        x.undo();
        due("the third again", x.delay(), 3);
        x.withdraw();
        due("none in court", x.delay(), NONE);
        x.call(1);
        due("of another from the first on", x.delay(), 1);
    }

    private static void appeals() {
        says("APPEALED: a guilty CASE that didn't APPEAL yet: it waits again");
        VaneCourt x = ruledBy(STILL);
        x.newCase(0, 5, 1, 1);
        x.newCase(0, 5, 1, 0);
        due("one that waits", x.appeal(0), false);
        x.call(0);
        due("one in court", x.appeal(0), false);
        x.hour(1);
        due("sentence", x.ofCase(0, 5), 5);
        due("a guilty one", x.appeal(0), true);
        due("waits", x.ofCase(0, 4), 0);
        due("appealed", x.ofCase(0, 6), 1);
        due("0 ahead of an end", x.ofCase(0, 5), 0);
        due("one that waits again", x.appeal(0), false);
        x.call(0);
        due("appealed in court", x.ofCase(0, 6), 1);
        x.hour(1);
        due("guilty again", x.ofCase(0, 4), 3);
        due("a second time", x.appeal(0), false);
        x.undo();
        x.undo();
        x.undo();
        due("as the appeal is taken back", x.ofCase(0, 6), 0);
        due("it can be again", x.appeal(0), true);
        x.call(1);
        x.hour(1);
        due("acquitted", x.ofCase(1, 4), 2);
        due("an acquitted one", x.appeal(1), false);
        due("it didn't appeal", x.ofCase(1, 6), 0);
    }

    private static void gusts() {
        says("GUST: QUARTER, FORCE are others (told)");
        VaneCourt x = new VaneCourt();
        due("both are so", x.gust(0, 3), false);
        for (int quarter = 0; quarter < 4; quarter++) {
            for (int force = 0; force < 10; force++) {
                boolean so = x.is(0) == quarter && x.is(1) == force;
                due("gust " + quarter + " " + force, x.gust(quarter, force), !so);
                due("quarter", x.is(0), quarter);
                due("force", x.is(1), force);
                due("both are so then", x.gust(quarter, force), false);
            }
        }
        due("another quarter alone", x.gust(0, 9), true);
        due("another force alone", x.gust(0, 8), true);
        int[][] beyond = {{-1, 5}, {4, 5}, {1, -1}, {1, 10}};
        for (int[] b : beyond) {
            due("beyond " + b[0] + " " + b[1], x.gust(b[0], b[1]), false);
            due("quarter", x.is(0), 0);
            due("force", x.is(1), 8);
        }
        due("no hour", x.is(3), 0);
        due("no draw", x.is(4), 107);
    }

    private static void withdrawing() {
        says("WITHDRAWN: the CASE in court waits again");
        VaneCourt x = ruledBy(STILL);
        addCases(x, 8, 5, 2, 1);
        due("none is in court", x.withdraw(), NONE);
        due("no step", x.about(3), 0);
        for (int c = 0; c < 8; c += 7) {
            x.call(c);
            x.delay();
            x.hour(1);
            due("it", x.withdraw(), c);
            due("waits", x.ofCase(c, 4), 0);
            alike("0 each without a case", sitting(x).substring(0, 6), "is 0 3");
            for (int what = 6; what <= 8; what++) {
                due("is " + what, x.is(what), 0);
            }
            due("none any more", x.withdraw(), NONE);
        }
        x.call(3);
        x.hour(2);
        due("one that ended isn't in court", x.withdraw(), NONE);
        due("it stays guilty", x.ofCase(3, 4), 3);
        due("not written down but for the end", x.book(NONE, 0), 1);
    }

    private static void hearing() {
        says("if HEARD is NEEDS and DELAYS together then, it ends; HEARD 0 .. 12");
        for (int needs = 1; needs <= 9; needs++) {
            for (int d = 0; d <= 3; d++) {
                VaneCourt x = ruledBy(STILL + "sentence hours;");
                x.newCase(0, 9, needs, 1);
                x.call(0);
                for (int i = 0; i < d; i++) {
                    x.delay();
                }
                for (int heard = 1; heard < needs + d; heard++) {
                    due("not yet", x.hour(1), 0);
                    due("heard", x.is(6), heard);
                    due("in court", x.ofCase(0, 4), 1);
                }
                due("it ends", x.hour(1), 1);
                due("guilty", x.ofCase(0, 4), 3);
                due("hours heard", x.ofCase(0, 5), needs + d);
                due("none in court", x.is(5), NONE);
                due("heard", x.is(6), 0);
                due("laws", x.is(7), 0);
                due("delays", x.is(8), 0);
                due("hour in the book", x.book(0, 0), needs + d - 1);
            }
        }
        says("HOURS pass (1 .. 60): how many CASES ended in them");
        VaneCourt y = ruledBy(STILL);
        y.newCase(0, 9, 9, 1);
        y.call(0);
        due("nine hours less one", y.hour(8), 0);
        due("the ninth, and more", y.hour(60), 1);
        due("none", y.hour(60), 0);
    }

    private static void laws() {
        says("LAWS (bits: QUARTERS by which it was)");
        VaneCourt x = ruledBy("veers 1;blows 5;fogs 1=0;sentence laws;");
        x.newCase(0, 9, 6, 1);
        x.call(0);
        int[] bits = {1, 3, 7, 15, 15};
        for (int i = 0; i < 5; i++) {
            x.hour(1);
            due("laws", x.is(7), bits[i]);
        }
        x.hour(1);
        due("how many", x.ofCase(0, 5), 4);
        for (int quarter = 0; quarter < 4; quarter++) {
            VaneCourt y = ruledBy(STILL + "sentence laws*10+quarter;");
            y.newCase(0, 9, 2, 1);
            y.gust(quarter, 1);
            y.call(0);
            y.hour(1);
            due("one law", y.is(7), 1 << quarter);
            y.hour(1);
            due("one law, the wind's quarter", y.ofCase(0, 5), 10 + quarter);
        }
    }

    private static void calmAndFog() {
        says("acquitted, if FORCE is 0 or there is FOG");
        for (int force = 0; force <= 9; force++) {
            VaneCourt x = ruledBy(STILL);
            x.newCase(0, 9, 1, 1);
            x.gust(1, force);
            x.call(0);
            x.hour(1);
            due("by force " + force, x.ofCase(0, 4), force == 0 ? 2 : 3);
        }
        VaneCourt x = ruledBy("veers 0;blows 5;fogs hour=1;");
        addCases(x, 3, 9, 1, 1);
        for (int c = 0; c < 3; c++) {
            x.call(c);
            x.hour(1);
            due("fog in hour 1 alone", x.ofCase(c, 4), c == 1 ? 2 : 3);
        }
        VaneCourt y = ruledBy("veers 0;blows 0;fogs 1=0;");
        addCases(y, 2, 9, 1, 1);
        for (int c = 0; c < 2; c++) {
            y.call(c);
            y.hour(1);
            due("by the wind ahead of its turn", y.ofCase(c, 4), c == 0 ? 3 : 2);
        }
        VaneCourt z = ruledBy("veers 0;blows 2-hour;fogs 1=0;");
        z.newCase(0, 9, 4, 1);
        z.gust(0, 0);
        z.call(0);
        z.hour(4);
        due("calm in its last hour", z.ofCase(0, 4), 2);
        VaneCourt v = ruledBy("veers 0;blows hour;fogs hour<2;");
        v.newCase(0, 9, 3, 1);
        v.gust(0, 0);
        v.call(0);
        v.hour(3);
        due("calm and fog in its first hours alone", v.ofCase(0, 4), 3);
    }

    private static void oneLawAtLeast() {
        says("else guilty, if the code of one of its LAWS at least says so");
        for (int code = 0; code < 4; code++) {
            for (int needs = 1; needs <= 4; needs++) {
                StringBuilder text = new StringBuilder("veers 1;blows 5;fogs 1=0;");
                for (int q = 0; q < 4; q++) {
                    text.append("code ").append(q).append(q == code ? ":1=1;" : ":1=0;");
                }
                VaneCourt x = ruledBy(text.toString());
                x.newCase(0, 9, needs, 255);
                x.call(0);
                x.hour(needs);
                due("code " + code + " of " + needs, x.ofCase(0, 4), code < needs ? 3 : 2);
            }
        }
    }

    private static void sentences() {
        says("SENTENCE (0, if acquitted) by sentence");
        VaneCourt x = ruledBy(STILL + "sentence 500;");
        x.newCase(0, 9, 1, 0);
        x.newCase(0, 9, 1, 1);
        for (int c = 0; c < 2; c++) {
            due("0 ahead of an end", x.ofCase(c, 5), 0);
            x.call(c);
            due("0 in court", x.ofCase(c, 5), 0);
            x.hour(1);
            due("sentence", x.ofCase(c, 5), c == 0 ? 0 : 500);
            due("verdict in the book", x.book(c, 2), c);
            due("sentence in the book", x.book(c, 3), c == 0 ? 0 : 500);
        }
        says("sentence: 0 at least, 999 at most");
        int[][] bounds = {{-9999, 0}, {-1, 0}, {0, 0}, {1, 1}, {998, 998}, {999, 999}, {1000, 999}, {9999, 999}};
        for (int[] b : bounds) {
            VaneCourt y = ruledBy(STILL + "sentence " + b[0] + ";");
            y.newCase(0, 9, 1, 1);
            due("foreseen of " + b[0], y.ends(0, 0, 0, 2), b[1]);
            y.call(0);
            y.hour(1);
            due("sentence of " + b[0], y.ofCase(0, 5), b[1]);
            due("guilty of " + b[0], y.ofCase(0, 4), 3);
            due("verdict in the book", y.book(0, 2), 1);
            due("sentence in the book", y.book(0, 3), b[1]);
        }
    }

    private static void windOfTheEnd() {
        says("it ends: by the wind of that HOUR, as a GUST, a STEP taken back or BACK left it");
        VaneCourt x = ruledBy("veers 1;blows 5;fogs 1=0;code 2:force=7 and hour=3;sentence quarter*100+force*10+hour;");
        x.newCase(0, 9, 1, 0);
        x.hour(3);
        x.gust(2, 7);
        x.image();
        due("foretold ahead of it", x.foretold(60, 1), 5);
        x.call(0);
        x.hour(1);
        due("by the gust", x.ofCase(0, 5), 273);
        x.hour(20);
        x.back();
        x.call(0);
        x.hour(1);
        due("by the image", x.ofCase(0, 5), 273);
        x.undo();
        due("another wind is foretold", x.calm(60), 0);
        x.hour(1);
        due("by the hour again", x.ofCase(0, 5), 273);
    }

    private static void bookOfEnds() {
        says("BOOK (the latest 30 ends): HOUR, CASE, VERDICT, SENTENCE");
        VaneCourt x = ruledBy(STILL + "sentence hour*50+999*(hour/15);");
        for (int c = 0; c < 8; c++) {
            x.newCase(0, 9, 1, 1);
        }
        // Eight cases end twice at most, so that the book never comes to 30: all 16 stay in it.
        for (int i = 0; i < 16; i++) {
            due("none such yet", x.book(i, 0), -2);
            due("it can be called", x.call(i % 8), true);
            due("ends", x.hour(1), 1);
            due("how many", x.book(NONE, 0), i + 1);
            due("appeals once", x.appeal(i % 8), i < 8);
        }
        for (int i = 0; i < 16; i++) {
            due("hour", x.book(i, 0), i);
            due("case", x.book(i, 1), i % 8);
            due("verdict", x.book(i, 2), 1);
            due("sentence", x.book(i, 3), i == 15 ? 999 : i * 50);
        }
        due("behind the last", x.book(16, 0), -2);
        VaneCourt y = ruledBy(STILL);
        addCases(y, 8, 9, 1, 1);
        passTo(y, 9998);
        y.call(7);
        due("in the last hour", y.hour(1), 1);
        due("hour", y.book(0, 0), 9998);
        due("case", y.book(0, 1), 7);
        due("verdict", y.book(0, 2), 1);
        due("sentence", y.book(0, 3), 9);
        VaneCourt z = ruledBy(STILL);
        z.newCase(0, 9, 1, 0);
        passTo(z, 9998);
        z.call(0);
        due("in the last hour", z.hour(1), 1);
        int[] acquitted = {9998, 0, 0, 0};
        for (int what = 0; what < 4; what++) {
            due("of the least entry " + what, z.book(0, what), acquitted[what]);
        }
    }

    private static void stepsAreCounted() {
        says("STEPS: CALLED, DELAYED, APPEALED, GUST, WITHDRAWN, an HOUR (each), DECADES");
        VaneCourt x = ruledBy(STILL);
        due("texts are none", x.about(3), 0);
        addCases(x, 2, 9, 2, 1);
        due("cases are none", x.about(3), 0);
        x.call(0);
        due("called", x.about(3), 1);
        x.delay();
        due("delayed", x.about(3), 2);
        x.hour(3);
        due("three hours", x.about(3), 5);
        x.appeal(0);
        due("appealed", x.about(3), 6);
        x.gust(1, 1);
        due("gust", x.about(3), 7);
        x.call(1);
        x.withdraw();
        due("withdrawn", x.about(3), 9);
        x.decades(17, 40);
        due("decades of 40", x.about(3), 10);
        x.decades(18, 1);
        due("decades of one", x.about(3), 11);
        x.record(0, 0, true);
        x.learn(0, true);
        x.counsel(1, 1);
        x.by(NONE);
        x.image();
        due("what isn't one", x.about(3), 11);
        read(x, "hour 4;gust 2 force 2;case 0 gravity 1 needs 1;");
        x.played(1);
        due("played: four hours and a gust", x.about(3), 16);
        says("The latest STEP is taken back: how many can be yet");
        for (int left = 15; left >= 0; left--) {
            due("undo", x.undo(), left);
            due("about", x.about(3), left);
        }
        due("there is none", x.undo(), NONE);
        due("about", x.about(3), 0);
    }

    private static void stepsAreThirty() {
        says("the latest 30 can be taken back, the latest first");
        for (int hours = 29; hours <= 32; hours++) {
            VaneCourt x = new VaneCourt();
            x.hour(hours);
            int can = Math.min(hours, 30);
            due("steps of " + hours, x.about(3), can);
            for (int i = 1; i <= can; i++) {
                due("undo", x.undo(), can - i);
                due("hour", x.is(3), hours - i);
            }
            due("there is none", x.undo(), NONE);
            due("hour", x.is(3), hours - can);
        }
        VaneCourt y = new VaneCourt();
        y.hour(60);
        due("of 60", y.about(3), 30);
        for (int i = 0; i < 10; i++) {
            y.undo();
        }
        y.hour(60);
        due("20 and 60", y.about(3), 30);
        for (int i = 0; i < 30; i++) {
            y.undo();
        }
        due("hour", y.is(3), 80);
        due("there is none", y.undo(), NONE);
        y.hour(1);
        due("one again", y.about(3), 1);
        due("taken back", y.undo(), 0);
        due("hour", y.is(3), 80);
    }

    private static void stepsGoBack() {
        says("THE WIND, HOUR, X, CASES but as told, who is in court, BOOK are as ahead of it");
        Call[] steps = {x -> x.call(0) ? 1 : 0, x -> x.delay(), x -> x.hour(1), x -> x.withdraw(),
            x -> x.gust(2, 7) ? 1 : 0, x -> x.call(1) ? 1 : 0, x -> x.hour(1), x -> x.appeal(1) ? 1 : 0,
            x -> x.hour(1), x -> x.call(1) ? 1 : 0, x -> x.hour(1), x -> x.decades(77, 40), x -> x.decades(5, 40),
            x -> x.hour(1)};
        String[] were = new String[steps.length];
        for (int i = 0; i < steps.length; i++) {
            were[i] = sitting(livedTo(steps, i));
        }
        for (int i = 0; i < steps.length; i++) {
            VaneCourt x = livedTo(steps, i + 1);
            for (int back = i; back >= Math.max(0, i - 2); back--) {
                due("undo", x.undo(), back);
                alike("behind " + i + " back to " + back, sitting(x), were[back]);
            }
        }
    }

    private static VaneCourt livedTo(Call[] steps, int many) {
        VaneCourt x = ruledBy("veers draw-4;blows draw/2+1;fogs draw=5;");
        x.newCase(0, 9, 2, 1);
        x.newCase(1, 8, 1, 5);
        x.newCase(2, 7, 3, 7);
        for (int i = 0; i < many; i++) {
            due("step " + i + " can be", steps[i].on(x) >= 0, true);
        }
        due("steps", x.about(3), many);
        return x;
    }

    private static void casesToldSince() {
        says("CASES told since wait");
        VaneCourt x = ruledBy(STILL);
        x.gust(1, 1);
        x.newCase(3, 9, 1, 1);
        x.call(0);
        x.hour(1);
        x.appeal(0);
        x.call(0);
        x.hour(1);
        x.newCase(4, 8, 2, 3);
        due("taken back to its second calling", x.undo(), 5);
        due("in court", x.ofCase(0, 4), 1);
        due("told since", x.ofCase(1, 4), 0);
        for (int left = 4; left >= 0; left--) {
            due("undo", x.undo(), left);
        }
        due("cases stay told", x.about(0), 2);
        for (int c = 0; c < 2; c++) {
            due("kind", x.ofCase(c, 0), 3 + c);
            due("waits", x.ofCase(c, 4), 0);
            due("no sentence", x.ofCase(c, 5), 0);
            due("not appealed", x.ofCase(c, 6), 0);
        }
        due("none in court", x.is(5), NONE);
        due("no end", x.book(NONE, 0), 0);
        due("it can be called", x.call(1), true);
        x.hour(2);
        due("the number goes on", x.newCase(0, 1, 1, 0), 2);
    }

    private static void whatNoStepTakesBack() {
        says("the latest 30 can be taken back (texts, records and the like are no steps)");
        VaneCourt x = new VaneCourt();
        x.hour(1);
        x.newCase(0, 9, 1, 1);
        read(x, "blows 9;");
        x.by(0);
        x.record(0, 0, true);
        x.learn(0, true);
        x.counsel(7, 7);
        x.feed(0, 0, 0, 0, 0);
        due("undo", x.undo(), 0);
        int[] about = {1, 1, 0, 0, 1, 1, 1, 20};
        for (int what = 0; what < 8; what++) {
            due("about " + what, x.about(what), about[what]);
        }
        due("the text still rules", x.foretold(1, 1), 9);
    }
}
