/** The bounds of parts IV and V: records, what is learned, counsel, calms, decades, the image. */
public final class BoundsOfRecordsTest extends Trial {
    public static void main(String[] args) {
        records();
        turnedWraps();
        recordsByTheWind();
        fewestWrong();
        whose();
        learned();
        codesFit();
        sure();
        toBring();
        counsel();
        hiredForPence();
        hiredOfLikeOnes();
        calm();
        calmUpTo9999();
        standing();
        standingUpTo9999();
        decadesOthers();
        decadesDraws();
        decadesAreOneStep();
        decadesAt9999();
        imageHoldsAll();
        imageStays();
        imageOfTexts();
        finish();
    }

    // ---------------------------------------------------------------- records

    private static void records() {
        says("RECORDS (8 at most): how many there are (c NONE: none any more). -2 for others, or if there are 8");
        VaneCourt x = new VaneCourt();
        due("no case", x.record(0, 0, true), -2);
        due("none of none", x.record(NONE, 0, true), 0);
        addCases(x, 3, 9, 1, 1);
        for (int c : new int[] {-2, 3, 8, LOW, HIGH}) {
            due("case " + c, x.record(c, 0, true), -2);
        }
        for (int quarter : new int[] {-1, 4, LOW, HIGH}) {
            due("quarter " + quarter, x.record(0, quarter, true), -2);
        }
        due("none came", x.about(4), 0);
        for (int i = 0; i < 8; i++) {
            due("record", x.record(i % 3, i % 4, true), i + 1);
            due("about", x.about(4), i + 1);
        }
        due("a ninth", x.record(0, 0, false), -2);
        due("eight", x.about(4), 8);
        due("the eight are right", x.turned(), 15);
        due("none any more", x.record(NONE, 3, false), 0);
        due("none", x.about(4), 0);
        due("one again", x.record(2, 3, false), 1);
        due("it is wrong by all", x.turned(), 0);
        due("a case that ended can be told of", endedRecorded(x), 2);
    }

    private static int endedRecorded(VaneCourt x) {
        x.call(0);
        x.hour(1);
        return x.record(0, 0, true);
    }

    private static void turnedWraps() {
        says("TURNED: by how much (0 .. 3, bits); the code is that of QUARTER and so much more, mod 4");
        for (int code = 0; code < 4; code++) {
            StringBuilder text = new StringBuilder();
            for (int q = 0; q < 4; q++) {
                text.append("code ").append(q).append(q == code ? ":quarter=" + q + ";" : ":1=0;");
            }
            VaneCourt x = ruledBy(text.toString());
            x.newCase(0, 1, 1, 0);
            for (int showed = 0; showed < 4; showed++) {
                int turn = (code - showed + 4) % 4;
                x.record(NONE, 0, true);
                x.record(0, showed, true);
                due("guilty by code " + code + ", shown " + showed, x.turned(), 1 << turn);
                x.record(NONE, 0, true);
                x.record(0, showed, false);
                due("not by code " + code + ", shown " + showed, x.turned(), 15 & ~(1 << turn));
            }
        }
        VaneCourt y = new VaneCourt();
        due("without records", y.turned(), 15);
        due("without records", y.fewestWrong(), 0);
    }

    private static void recordsByTheWind() {
        says("hours as its NEEDS; the wind else as now");
        VaneCourt x = ruledBy(STILL + "code 0:hours=3;code 1:hour=2;code 2:force=0;code 3:kind=5 and gravity=2 and fact 7;");
        x.newCase(5, 2, 3, 128);
        x.newCase(5, 2, 2, 128);
        x.record(0, 0, true);
        due("hours 3, fact 7", x.turned(), 9);
        x.hour(2);
        due("in hour 2", x.turned(), 11);
        x.gust(1, 0);
        due("in a calm", x.turned(), 15);
        x.record(1, 0, true);
        due("not by hours", x.turned(), 14);
        x.call(1);
        x.delay();
        x.hour(1);
        due("in hour 3, whatever was heard", x.turned(), 12);
    }

    private static void fewestWrong() {
        says("FEWEST WRONG: the least number of RECORDS that are wrong by any of the four");
        VaneCourt x = ruledBy("code 0:1=1;code 1:1=0;code 2:1=0;code 3:1=0;");
        x.newCase(0, 1, 1, 0);
        for (int i = 1; i <= 8; i++) {
            x.record(0, i <= 4 ? 1 : 3, true);
            due("guilty by a turn of 3 or of 1, of " + i, x.fewestWrong(), i <= 4 ? 0 : i - 4);
        }
        due("none is right", x.turned(), 0);
        VaneCourt y = ruledBy("code 0:1=0;code 1:1=0;code 2:1=0;code 3:1=0;");
        y.newCase(0, 1, 1, 0);
        for (int i = 1; i <= 8; i++) {
            y.record(0, i % 4, true);
            due("all are wrong", y.fewestWrong(), i);
        }
        for (int turn = 0; turn < 4; turn++) {
            VaneCourt z = ruledBy("code " + turn + ":1=1;");
            z.newCase(0, 1, 1, 0);
            z.record(0, 0, true);
            z.record(0, 0, true);
            z.record(0, 0, false);
            due("by a turn of " + turn, z.fewestWrong(), 1);
        }
    }

    private static void whose() {
        says("WHOSE: TEXTS (bits) by whose codes (a TEXT without it: by what is so without) all are right");
        VaneCourt x = new VaneCourt();
        due("no text", x.whose(), 0);
        x.newCase(0, 2, 1, 1);
        x.newCase(0, 2, 1, 0);
        String[] texts = {"code 0:1=0;code 3:1=1;", "code 1:not fact 0;", "", "code 0:fact 0;code 1:fact 0;code 2:fact 0;"};
        int[] all = {1, 3, 7, 15};
        for (int i = 0; i < 4; i++) {
            due("text", read(x, texts[i]), i);
            due("without records", x.whose(), all[i]);
        }
        int[][] guilty = {{0, 0, 14}, {0, 1, 13}, {0, 2, 8}, {0, 3, 1}, {1, 0, 0}, {1, 1, 2}, {1, 2, 0}, {1, 3, 1}};
        for (int[] g : guilty) {
            x.record(NONE, 0, true);
            x.record(g[0], g[1], true);
            due("guilty " + g[0] + " by " + g[1], x.whose(), g[2]);
            x.record(NONE, 0, true);
            x.record(g[0], g[1], false);
            due("not " + g[0] + " by " + g[1], x.whose(), 15 & ~g[2]);
            x.by(g[1]);
        }
        x.record(NONE, 0, true);
        x.record(0, 0, true);
        x.record(0, 1, true);
        x.record(0, 2, true);
        due("all of them", x.whose(), 8);
        x.record(1, 2, true);
        due("none", x.whose(), 0);
        says("the vane not turned");
        VaneCourt y = new VaneCourt();
        y.newCase(0, 1, 1, 0);
        read(y, "code 1:1=1;");
        y.record(0, 0, true);
        due("it would be by a turn", y.whose(), 0);
    }

    // ---------------------------------------------------------------- learned

    private static void learned() {
        says("LEARNED (8 at most): how many there are (c NONE: none any more). -2 for others, or if there are 8");
        VaneCourt x = new VaneCourt();
        due("no case", x.learn(0, true), -2);
        due("none of none", x.learn(NONE, true), 0);
        x.newCase(0, 1, 1, 255);
        x.newCase(0, 1, 1, 3);
        for (int c : new int[] {-2, 2, 8, LOW, HIGH}) {
            due("case " + c, x.learn(c, true), -2);
        }
        due("none came", x.about(5), 0);
        for (int i = 1; i <= 8; i++) {
            due("learn", x.learn(i == 8 ? 1 : 0, true), i);
            due("about", x.about(5), i);
            due("codes", x.codes(NONE), i == 8 ? 4 : 256);
        }
        due("a ninth", x.learn(0, false), -2);
        due("eight", x.about(5), 8);
        due("it isn't learned", x.codes(NONE), 4);
        due("none any more", x.learn(NONE, false), 0);
        due("none", x.about(5), 0);
        due("all codes again", x.codes(NONE), 256);
        due("one again", x.learn(1, true), 1);
    }

    private static void codesFit() {
        says("CODES: sets of FACTS (0 .. 255): how many (i NONE), the i-th. NONE if there is none such, and for others");
        VaneCourt x = new VaneCourt();
        for (int i = 0; i < 256; i++) {
            due("the i-th", x.codes(i), i);
        }
        for (int i : new int[] {256, -2, LOW, HIGH}) {
            due("none such " + i, x.codes(i), NONE);
        }
        int[][] told = {{0, 1, 1, 0, NONE}, {0, 0, 255, 1, 2}, {255, 1, 256, 0, 1}, {255, 0, 0, NONE, NONE},
            {128, 1, 2, 0, 128}, {127, 0, 128, 128, 129}, {6, 1, 4, 0, 2}};
        for (int[] t : told) {
            VaneCourt y = new VaneCourt();
            y.newCase(0, 1, 1, t[0]);
            y.learn(0, t[1] == 1);
            due("how many of " + t[0], y.codes(NONE), t[2]);
            due("the first of " + t[0], y.codes(0), t[3]);
            due("the second of " + t[0], y.codes(1), t[4]);
            due("behind the last of " + t[0], y.codes(t[2]), NONE);
            if (t[2] > 0) {
                due("the last of " + t[0], y.codes(t[2] - 1) >= 0, true);
            }
        }
        VaneCourt z = new VaneCourt();
        z.newCase(0, 1, 1, 5);
        z.learn(0, true);
        z.learn(0, false);
        due("both can't be", z.codes(NONE), 0);
        due("none such", z.codes(0), NONE);
    }

    private static void sure() {
        says("SURE: of a CASE 1 (guilty by all of these), 0 (by none), else NONE (also without any)");
        VaneCourt x = new VaneCourt();
        due("no case", x.sure(0), NONE);
        x.newCase(0, 1, 1, 255);
        x.newCase(0, 1, 1, 254);
        x.newCase(0, 1, 1, 0);
        x.newCase(0, 1, 1, 1);
        due("all facts: by all", x.sure(0), 1);
        due("by all but half", x.sure(1), NONE);
        due("by one of 256", x.sure(2), NONE);
        for (int c : new int[] {-1, 4, 8, LOW, HIGH}) {
            due("others " + c, x.sure(c), NONE);
        }
        x.learn(2, false);
        due("by none", x.sure(2), 0);
        due("by all", x.sure(0), 1);
        due("by one of 255", x.sure(3), NONE);
        x.learn(3, true);
        due("by the one that is left", x.sure(3), 1);
        due("not by it", x.sure(1), 0);
        x.learn(0, false);
        for (int c = 0; c < 4; c++) {
            due("without any", x.sure(c), NONE);
        }
    }

    private static void toBring() {
        says("TO BRING NEXT: as near to half of these as can be (not by all, not by none); of like ones the lowest; none");
        VaneCourt x = new VaneCourt();
        due("no case", x.toBring(), NONE);
        x.newCase(0, 1, 1, 255);
        due("by all", x.toBring(), NONE);
        x.newCase(0, 1, 1, 0);
        due("by one of 256", x.toBring(), 1);
        x.newCase(0, 1, 1, 3);
        due("by four", x.toBring(), 2);
        x.newCase(0, 1, 1, 63);
        due("by 64", x.toBring(), 3);
        x.newCase(0, 1, 1, 126);
        due("by 64 too: the lowest", x.toBring(), 3);
        x.newCase(0, 1, 1, 127);
        due("by 128", x.toBring(), 5);
        x.newCase(0, 1, 1, 254);
        due("by 128 too: the lowest", x.toBring(), 5);
        x.learn(5, false);
        due("of 128 by 64", x.toBring(), 6);
        x.learn(6, true);
        due("of 64: all or none", x.toBring(), NONE);
        x.learn(NONE, true);
        x.learn(1, true);
        due("one set, the empty one: by all", x.toBring(), NONE);
        x.learn(1, false);
        due("without any", x.toBring(), NONE);
        says("TO BRING NEXT: as near to half, of an odd number of sets");
        VaneCourt y = new VaneCourt();
        y.newCase(0, 1, 1, 3);
        y.newCase(0, 1, 1, 1);
        y.newCase(0, 1, 1, 0);
        y.newCase(0, 1, 1, 2);
        y.learn(0, true);
        y.learn(2, false);
        // The sets 1, 2, 3: case 1 by one of three, case 3 by one, case 0 by all.
        due("by one of three, the lowest", y.toBring(), 1);
        VaneCourt z = new VaneCourt();
        z.newCase(0, 1, 1, 0b0111);
        z.newCase(0, 1, 1, 0b0110);
        z.newCase(0, 1, 1, 0b0001);
        z.newCase(0, 1, 1, 0b0000);
        z.learn(0, true);
        z.learn(3, false);
        // Of the seven sets but the empty one: case 1 by three, case 2 by one.
        due("by three of seven", z.toBring(), 1);
        z.call(1);
        due("of all told, in court too", z.toBring(), 1);
        VaneCourt v = new VaneCourt();
        v.newCase(0, 1, 1, 15);
        due("the first alone", v.toBring(), 0);
        v.newCase(0, 1, 1, 7);
        due("the first is nearer", v.toBring(), 0);
        v.newCase(0, 1, 1, 240);
        due("of like ones the first", v.toBring(), 0);
        addCases(v, 4, 1, 1, 255);
        v.newCase(0, 1, 1, 31);
        due("the eighth is nearer", v.toBring(), 7);
    }

    // ---------------------------------------------------------------- counsel

    private static void counsel() {
        says("COUNSEL (8 at most; a price 1 .. 999, a skill 0 .. 99). -2 for others, or if there are 8");
        VaneCourt x = new VaneCourt();
        int[][] bad = {{0, 0}, {1000, 0}, {-2, 0}, {1, -1}, {1, 100}, {LOW, 1}, {HIGH, 1}, {1, LOW}, {1, HIGH}};
        for (int[] b : bad) {
            due("counsel " + b[0] + " " + b[1], x.counsel(b[0], b[1]), -2);
            due("none came", x.about(6), 0);
        }
        due("none of none", x.counsel(NONE, 0), 0);
        int[][] good = {{1, 0}, {999, 99}, {1, 99}, {999, 0}, {2, 1}, {998, 98}, {500, 50}, {7, 7}};
        for (int i = 0; i < 8; i++) {
            due("counsel", x.counsel(good[i][0], good[i][1]), i + 1);
            due("about", x.about(6), i + 1);
        }
        due("a ninth", x.counsel(1, 1), -2);
        due("eight", x.about(6), 8);
        due("all of any skill", x.hired(9999, true), 0b11110110);
        due("skill", x.hired(9999, false), 99 + 99 + 1 + 98 + 50 + 7);
        due("none any more", x.counsel(NONE, 100), 0);
        due("none", x.about(6), 0);
        due("nobody", x.hired(9999, true), 0);
        due("one again", x.counsel(3, 3), 1);
    }

    private static void hiredForPence() {
        says("HIRED for p (0 .. 9999) pence: the greatest skill together (any number of them). NONE for others");
        VaneCourt x = new VaneCourt();
        for (int p : new int[] {-1, 10000, LOW, HIGH}) {
            due("skill for " + p, x.hired(p, false), NONE);
            due("who for " + p, x.hired(p, true), NONE);
        }
        due("nobody told", x.hired(0, false), 0);
        due("nobody told", x.hired(9999, true), 0);
        for (int i = 0; i < 8; i++) {
            x.counsel(999, 99);
        }
        for (int many = 1; many <= 8; many++) {
            due("a penny short of " + many, x.hired(999 * many - 1, false), 99 * (many - 1));
            due("a penny short of " + many, x.hired(999 * many - 1, true), (1 << many - 1) - 1);
            due("enough for " + many, x.hired(999 * many, false), 99 * many);
            due("enough for " + many, x.hired(999 * many, true), (1 << many) - 1);
        }
        due("for all pence", x.hired(9999, false), 792);
        VaneCourt y = new VaneCourt();
        y.counsel(1, 5);
        due("for 0", y.hired(0, false), 0);
        due("for 0", y.hired(0, true), 0);
        due("for 1", y.hired(1, false), 5);
        due("for 1", y.hired(1, true), 1);
    }

    private static void hiredOfLikeOnes() {
        says("of like ones the cheapest, then the lowest set");
        VaneCourt x = new VaneCourt();
        x.counsel(10, 20);
        x.counsel(9, 20);
        x.counsel(9, 20);
        due("the cheapest, then the lowest", x.hired(10, true), 2);
        due("both cheap ones", x.hired(18, true), 6);
        due("a penny short", x.hired(17, true), 2);
        x.counsel(5, 0);
        due("without skill, not cheaper", x.hired(9999, true), 7);
        VaneCourt y = new VaneCourt();
        y.counsel(8, 30);
        y.counsel(4, 15);
        y.counsel(4, 15);
        due("alike in price and skill: the lowest set", y.hired(8, true), 1);
        due("skill", y.hired(8, false), 30);
        VaneCourt z = new VaneCourt();
        z.counsel(4, 15);
        z.counsel(4, 15);
        z.counsel(8, 30);
        due("two of them are the lower set", z.hired(8, true), 3);
        VaneCourt v = new VaneCourt();
        v.counsel(4, 15);
        v.counsel(5, 15);
        v.counsel(8, 30);
        due("one is cheaper than two", v.hired(9, true), 4);
        VaneCourt w = new VaneCourt();
        w.counsel(10, 20);
        w.counsel(5, 19);
        due("the greater skill, if dearer", w.hired(10, true), 1);
    }

    // ---------------------------------------------------------------- calms, quarters

    private static void calm() {
        says("LONGEST calm: of the next n HOURS (1 .. 60), the most one behind the other in which FORCE is 0 or there is FOG");
        VaneCourt x = ruledBy("veers 0;blows 1;fogs hour>=1 and hour<=3 or hour>=5 and hour<=9 or hour>=57;");
        int[][] all = {{1, 0}, {2, 1}, {3, 2}, {4, 3}, {5, 3}, {6, 3}, {8, 3}, {9, 4}, {10, 5}, {57, 5}, {60, 5}};
        for (int[] a : all) {
            due("of " + a[0], x.calm(a[0]), a[1]);
        }
        for (int n : new int[] {0, -1, 61, LOW, HIGH}) {
            due("others " + n, x.calm(n), NONE);
        }
        VaneCourt y = ruledBy("veers 0;blows force;fogs 1=0;");
        due("force 3", y.calm(60), 0);
        y.gust(0, 1);
        due("force 1", y.calm(60), 0);
        y.gust(0, 0);
        due("force 0, the first as now", y.calm(1), 1);
        due("sixty", y.calm(60), 60);
        VaneCourt z = ruledBy("veers 0;blows 9;fogs 1=0;");
        z.gust(0, 0);
        due("as now alone", z.calm(60), 1);
        VaneCourt v = ruledBy("veers 0;blows 0;fogs 1=0;");
        due("all but as now", v.calm(60), 59);
        due("as now", v.calm(1), 0);
        VaneCourt w = ruledBy("veers 0;blows hour/30*5;fogs hour>=30 and hour<40;");
        w.gust(0, 0);
        due("calm, then fog", w.calm(60), 40);
        w.hour(30);
        due("fog as now", w.calm(1), 1);
    }

    private static void calmUpTo9999() {
        says("the next n HOURS (those that can pass)");
        for (int left = 0; left <= 61; left += left == 2 ? 57 : 1) {
            VaneCourt x = ruledBy("veers 0;blows 0;fogs 1=0;");
            passTo(x, 9999 - left);
            due("calm of 60, " + left + " left", x.calm(60), Math.min(left, 60));
            due("calm of 1, " + left + " left", x.calm(1), Math.min(left, 1));
            due("calm of 2, " + left + " left", x.calm(2), Math.min(left, 2));
            due("others", x.calm(61), NONE);
            due("others", x.calm(0), NONE);
        }
    }

    private static void standing() {
        says("STANDING: how many of the next n HOURS have a QUARTER. NONE for others");
        VaneCourt x = ruledBy("veers 1;");
        for (int n = 1; n <= 60; n += n == 9 ? 49 : 1) {
            for (int quarter = 0; quarter < 4; quarter++) {
                due("of " + n + " quarter " + quarter, x.standing(n, quarter), (n + 3 - quarter) / 4);
            }
        }
        for (int n : new int[] {0, -1, 61, LOW, HIGH}) {
            due("others " + n, x.standing(n, 0), NONE);
        }
        for (int quarter : new int[] {-1, 4, LOW, HIGH}) {
            due("others " + quarter, x.standing(1, quarter), NONE);
        }
        x.gust(3, 3);
        due("the first as now", x.standing(1, 3), 1);
        due("not another", x.standing(1, 0), 0);
    }

    private static void standingUpTo9999() {
        says("STANDING of the next n HOURS (those that can pass)");
        for (int left = 0; left <= 61; left += left == 2 ? 57 : 1) {
            VaneCourt x = ruledBy("veers 0;");
            passTo(x, 9999 - left);
            due("of 60, " + left + " left", x.standing(60, 0), Math.min(left, 60));
            due("of 1, " + left + " left", x.standing(1, 0), Math.min(left, 1));
            due("of 2, " + left + " left", x.standing(2, 0), Math.min(left, 2));
            due("another", x.standing(60, 1), 0);
        }
    }

    // ---------------------------------------------------------------- decades

    private static void decadesOthers() {
        says("SEED (0 .. 9999), n times (1 .. 40). NONE for others, and without CASES");
        VaneCourt x = new VaneCourt();
        due("without cases", x.decades(0, 1), NONE);
        due("without cases", x.decades(9999, 40), NONE);
        due("X", x.is(4), 107);
        due("no step", x.about(3), 0);
        x.newCase(0, 1, 9, 0);
        int[][] bad = {{-1, 1}, {10000, 1}, {0, 0}, {0, 41}, {0, -1}, {LOW, 1}, {HIGH, 1}, {0, LOW}, {0, HIGH}};
        for (int[] b : bad) {
            due("seed " + b[0] + ", " + b[1] + " times", x.decades(b[0], b[1]), NONE);
            due("X", x.is(4), 107);
            due("no step", x.about(3), 0);
        }
        int[][] good = {{0, 1}, {9999, 1}, {0, 40}, {9999, 40}};
        for (int i = 0; i < 4; i++) {
            due("seed " + good[i][0] + ", " + good[i][1] + " times", x.decades(good[i][0], good[i][1]), x.is(3));
            due("a step", x.about(3), i + 1);
        }
    }

    private static void decadesDraws() {
        says("X is SEED * 2 + 107; x is X, then X is anew: x mod 7: 0, 1 CALLED; 2 DELAYED; 3 APPEALS; else an HOUR");
        for (int seed = 0; seed <= 9999; seed += 101) {
            for (int cases = 1; cases <= 8; cases += 7) {
                oneDraw(seed, cases);
            }
        }
        for (int seed = 9990; seed <= 9999; seed++) {
            oneDraw(seed, 3);
        }
    }

    /** One draw from a court in which all can be: case 0 guilty, the next in court or waiting. */
    private static void oneDraw(int seed, int cases) {
        int x = seed * 2 + 107;
        int anew = (x * 331 + 223) % 30389;
        VaneCourt y = ruledBy(STILL);
        addCases(y, cases, 9, 1, 1);
        y.call(0);
        y.hour(1);
        boolean sits = x % 7 == 2 && cases > 1 && y.call(1);
        int c = x % cases;
        due("hour by " + seed, y.decades(seed, 1), x % 7 > 3 ? 2 : 1);
        due("X by " + seed, y.is(4), x % 7 > 3 ? (anew * 331 + 223) % 30389 : anew);
        due("called by " + seed, y.is(5), x % 7 < 2 && c > 0 ? c : sits ? 1 : NONE);
        due("delayed by " + seed, y.is(8), sits ? 1 : 0);
        due("appealed by " + seed, y.ofCase(0, 6), x % 7 == 3 && c == 0 ? 1 : 0);
        due("case 0 by " + seed, y.ofCase(0, 4), x % 7 == 3 && c == 0 ? 0 : 3);
    }

    private static void decadesAreOneStep() {
        says("It is one STEP: HOUR");
        VaneCourt x = ruledBy(RESTLESS);
        addCases(x, 3, 9, 2, 1);
        x.hour(2);
        String ahead = sitting(x);
        int hour = x.decades(123, 40);
        due("the hour", hour, x.is(3));
        due("hours passed", hour > 2, true);
        due("one step", x.about(3), 3);
        due("taken back", x.undo(), 2);
        alike("all is as ahead of it", sitting(x), ahead);
        for (int i = 0; i < 31; i++) {
            x.decades(i, 1);
        }
        due("the latest 30", x.about(3), 30);
    }

    private static final String RESTLESS = "veers draw-4;blows draw/2+1;fogs draw=8;";

    private static void decadesAt9999() {
        says("else an HOUR (if it can pass)");
        // The seed 0: 107 mod 7 is 2, so nothing; then draws by the document's own rule.
        for (int left = 0; left <= 2; left++) {
            VaneCourt x = ruledBy(STILL);
            addCases(x, 8, 9, 9, 1);
            passTo(x, 9999 - left);
            x.call(0);
            int can = left;
            int at = 4 * 2 + 107;
            for (int i = 0; i < 40; i++) {
                int drawn = at;
                at = (at * 331 + 223) % 30389;
                if (drawn % 7 > 3 && can > 0) {
                    can--;
                    at = (at * 331 + 223) % 30389;
                }
            }
            due("hour, " + left + " left", x.decades(4, 40), 9999 - can);
            due("all passed", can, 0);
            due("X, " + left + " left", x.is(4), at);
            due("heard", x.is(6), left);
            due("delayed", x.is(8) > 0, true);
        }
    }

    // ---------------------------------------------------------------- the image

    private static VaneCourt full() {
        VaneCourt x = ruledBy(RESTLESS + "sentence hour+9;");
        addCases(x, 3, 9, 1, 1);
        x.newCase(1, 2, 9, 6);
        x.call(0);
        x.hour(1);
        x.call(1);
        x.hour(1);
        x.appeal(0);
        x.call(3);
        x.delay();
        x.hour(2);
        x.record(0, 1, true);
        x.record(1, 2, false);
        x.learn(0, true);
        x.learn(3, false);
        x.counsel(5, 9);
        return x;
    }

    private static void imageHoldsAll() {
        says("AN IMAGE: all as it is, but the tape and the latest FAULT. BACK: all is so again");
        VaneCourt x = full();
        due("image", x.image(), x.is(3));
        due("no step", x.about(3), full().about(3));
        alike("nothing changes", kept(x), kept(full()));
        x.hour(31);
        x.newCase(5, 5, 5, 5);
        read(x, "blows 9;");
        x.by(1);
        x.record(NONE, 0, true);
        x.record(2, 2, true);
        x.learn(NONE, true);
        x.counsel(NONE, 0);
        read(x, "call 9;");
        x.feed(1, 2, 3, 4, 5);
        due("back", x.back(), 4);
        alike("all is so again", kept(x), kept(full()));
        due("but the tape", x.about(7), 20);
        due("but the latest fault", x.fault(0), 2);
        due("but its place", x.fault(1), 5);
        VaneCourt y = full();
        for (int left = y.about(3) - 1; left >= 0; left--) {
            due("steps of the image", x.undo(), left);
            due("steps without an image", y.undo(), left);
            for (int what = 0; what <= 8; what++) {
                due("is " + what + ", " + left + " left", x.is(what), y.is(what));
            }
        }
        alike("taken back behind an image", sitting(x), sitting(y));
    }

    private static void imageStays() {
        says("BACK to THE IMAGE (it stays): HOUR; THE IMAGE is as all is now: HOUR");
        VaneCourt x = new VaneCourt();
        x.hour(3);
        due("the first image", x.back(), 0);
        x.hour(2);
        due("again", x.back(), 0);
        x.hour(60);
        due("image", x.image(), 60);
        x.hour(1);
        due("back", x.back(), 60);
        due("hour", x.is(3), 60);
        due("steps", x.about(3), 30);
        due("taken back behind it", x.undo(), 29);
        due("hour", x.is(3), 59);
        due("back", x.back(), 60);
        due("steps", x.about(3), 30);
        x.hour(5);
        due("a later image", x.image(), 65);
        due("back to it", x.back(), 65);
        VaneCourt y = new VaneCourt();
        passTo(y, 9999);
        due("image at the end", y.image(), 9999);
        due("back to it", y.back(), 9999);
    }

    private static void imageOfTexts() {
        says("BACK: all is so again (TEXTS told since are told no more)");
        VaneCourt x = new VaneCourt();
        read(x, "blows 1;");
        x.by(0);
        x.image();
        for (int round = 0; round < 3; round++) {
            for (int i = 1; i < 4; i++) {
                due("text", read(x, "blows " + (i + round) + ";"), i);
            }
            due("a fifth", read(x, ""), NONE);
            x.by(3);
            due("it rules", x.foretold(1, 1), 3 + round);
            x.back();
            due("one text", x.about(1), 1);
            due("it rules", x.about(2), 0);
            due("it rules", x.foretold(1, 1), 1);
            due("no other", x.by(1), false);
            due("no other", x.played(1), -2);
            due("no other", x.whose(), 1);
        }
        due("a fault", read(x, "blows 9;veers 1;x"), NONE);
        due("it rules yet", x.foretold(1, 1), 1);
        due("the next", read(x, "veers 0;"), 1);
        x.by(1);
        due("without blows", x.foretold(1, 1), 7);
    }
}
