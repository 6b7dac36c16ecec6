import java.nio.charset.StandardCharsets;
import java.util.Arrays;

/** Each promise by itself: what is ordinary, the edges that the document names, and wrong inputs. */
public final class PromiseTest {
    private static final int NONE = VaneCourt.NONE;
    private static final int LOW = Integer.MIN_VALUE;
    private static final int HIGH = Integer.MAX_VALUE;
    /** A wind that never changes by itself. */
    private static final String STILL = "veers 0; blows force; fogs 1=0;";

    private static int wrong = 0;
    private static String promise = "";

    public static void main(String[] args) {
        promises1To7();
        promises8To16();
        promises17To24();
        promises25To32();
        promises33To43();
        grammar();
        System.out.println(wrong == 0 ? "all promises are kept" : wrong + " answers are not as promised");
        if (wrong != 0) {
            System.exit(1);
        }
    }

    private static void promises1To7() {
        newObject();
        newCase();
        feed();
        end();
        text();
        fault();
        by();
    }

    private static void promises8To16() {
        call();
        delay();
        appeal();
        gust();
        withdraw();
        hour();
        played();
        decades();
        undo();
    }

    private static void promises17To24() {
        ofCase();
        is();
        book();
        foretold();
        ends();
        best();
        harshest();
        odds();
    }

    private static void promises25To32() {
        clash();
        leastFacts();
        game();
        session();
        record();
        turned();
        fewestWrong();
        whose();
    }

    private static void promises33To43() {
        learn();
        codes();
        sure();
        toBring();
        counsel();
        hired();
        calm();
        standing();
        image();
        back();
        about();
    }

    // ---------------------------------------------------------------- helpers

    private static void due(String what, long got, long want) {
        if (got != want) {
            wrong++;
            System.out.println(promise + ": " + what + " answered " + got + ", due is " + want);
        }
    }

    private static void due(String what, boolean got, boolean want) {
        due(what, got ? 1 : 0, want ? 1 : 0);
    }

    private static void feedText(VaneCourt x, String text) {
        byte[] bytes = Arrays.copyOf(text.getBytes(StandardCharsets.ISO_8859_1), 320);
        x.end(0);
        for (int at = 0; at < text.length(); at += 20) {
            int[] w = new int[5];
            for (int i = 0; i < 20; i++) {
                w[i / 4] = w[i / 4] << 8 | bytes[at + i] & 255;
            }
            x.feed(w[0], w[1], w[2], w[3], w[4]);
        }
        x.end(text.length());
    }

    private static int read(VaneCourt x, String text) {
        feedText(x, text);
        return x.text();
    }

    private static VaneCourt ruledBy(String text) {
        VaneCourt x = new VaneCourt();
        int number = read(x, text);
        due("text " + text, number, 0);
        due("by", x.by(number), true);
        return x;
    }

    private static void faultOf(String text, int fault, int place) {
        VaneCourt x = new VaneCourt();
        due("text " + text, read(x, text), fault == 0 ? 0 : NONE);
        due("fault of " + text, x.fault(0), fault);
        due("place in " + text, x.fault(1), place);
    }

    private static void passTo(VaneCourt x, int hour) {
        // Few calls: an object answers for 512 alone.
        for (int now = x.is(3); now < hour; now += 60) {
            x.hour(Math.min(60, hour - now));
        }
        due("passed to", x.is(3), hour);
    }

    /** What a sum is worth, as a sentence 500 above it. */
    private static void worth(String sum, int value) {
        VaneCourt x = ruledBy("code 0: 1=1; sentence 500+(" + sum + ");");
        x.newCase(4, 7, 1, 0);
        due("worth of " + sum, x.ends(0, 0, 0, 2), 500 + value);
    }

    /** Whether code 0 is so of a case of kind 4, gravity 7, needs 1, facts 0 and 3. */
    private static void so(String whole, boolean due) {
        VaneCourt x = ruledBy("code 0: " + whole + ";");
        x.newCase(4, 7, 1, 9);
        due(whole, (x.clash(0) & 1) == 1, due);
    }

    // ---------------------------------------------------------------- 1 to 7

    private static void newObject() {
        promise = "1 VaneCourt";
        VaneCourt x = new VaneCourt();
        int[] first = {0, 3, 0, 0, 107, NONE, 0, 0, 0};
        for (int i = 0; i < 9; i++) {
            due("is " + i, x.is(i), first[i]);
        }
        int[] counts = {0, 0, NONE, 0, 0, 0, 0, 0};
        for (int i = 0; i < 8; i++) {
            due("about " + i, x.about(i), counts[i]);
        }
        due("book", x.book(NONE, 0), 0);
        x.newCase(0, 1, 1, 0);
        x.hour(5);
        due("back to the first image", x.back(), 0);
        due("no cases then", x.about(0), 0);
        due("X as at first", x.is(4), 107);
        due("NONE", VaneCourt.NONE, -1);
    }

    private static void newCase() {
        promise = "2 newCase";
        VaneCourt x = new VaneCourt();
        int[][] bad = {{-1, 1, 1, 0}, {6, 1, 1, 0}, {0, 0, 1, 0}, {0, 10, 1, 0}, {0, 1, 0, 0}, {0, 1, 10, 0},
            {0, 1, 1, -1}, {0, 1, 1, 256}, {LOW, 1, 1, 0}, {0, HIGH, 1, 0}, {0, 1, LOW, 0}, {0, 1, 1, HIGH}};
        for (int[] b : bad) {
            due("wrong " + Arrays.toString(b), x.newCase(b[0], b[1], b[2], b[3]), NONE);
        }
        due("the first", x.newCase(5, 9, 9, 255), 0);
        due("kind", x.ofCase(0, 0), 5);
        due("gravity", x.ofCase(0, 1), 9);
        due("needs", x.ofCase(0, 2), 9);
        due("facts", x.ofCase(0, 3), 255);
        for (int i = 1; i < 8; i++) {
            due("the next", x.newCase(0, 1, 1, 0), i);
        }
        due("a ninth", x.newCase(0, 1, 1, 0), NONE);
        due("is no step", x.about(3), 0);
    }

    private static void feed() {
        promise = "3 feed";
        VaneCourt x = new VaneCourt();
        for (int i = 1; i <= 15; i++) {
            due("feed", x.feed(0, 0, 0, 0, 0), 20 * i);
        }
        due("beyond 300", x.feed(0, 0, 0, 0, 0), NONE);
        due("none came", x.about(7), 300);
        x.end(281);
        due("281 and 20", x.feed(1, 1, 1, 1, 1), NONE);
        x.end(280);
        due("280 and 20", x.feed(1, 1, 1, 1, 1), 300);
        // 0x64656C61 is "dela", 0x793B2020 is "y;  ": the highest byte is the first.
        x.end(0);
        x.feed(0x64656C61, 0x793B2020, 0x20202020, 0x20202020, 0x20202020);
        due("read in their order", x.text(), 0);
        x.feed(0x64656C61, 0x793B20FF, 0x20202020, 0x20202020, 0x20202020);
        due("a byte of 255", x.text(), NONE);
        due("at its place", x.fault(1), 7);
    }

    private static void end() {
        promise = "4 end";
        VaneCourt x = new VaneCourt();
        due("of an empty one", x.end(0), 0);
        due("more than it has", x.end(1), NONE);
        x.feed(0, 0, 0, 0, 0);
        due("too many", x.end(21), NONE);
        due("below 0", x.end(-1), NONE);
        due("nothing was done", x.about(7), 20);
        due("all", x.end(20), 20);
        due("some", x.end(7), 7);
        due("those alone", x.about(7), 7);
        due("what is cut doesn't come again", x.end(8), NONE);
        due("HIGH", x.end(HIGH), NONE);
        due("LOW", x.end(LOW), NONE);
    }

    private static void text() {
        promise = "5 text";
        VaneCourt x = new VaneCourt();
        due("an empty tape", x.text(), 0);
        due("a next", read(x, "delay;"), 1);
        due("the tape is empty then", x.about(7), 0);
        due("a fault", read(x, "delay"), NONE);
        due("the tape isn't kept for it", x.about(7), 0);
        due("a third", read(x, "code 0: fact 1;"), 2);
        due("a fourth", read(x, " \n "), 3);
        feedText(x, "withdraw;!");
        due("a fifth", x.text(), NONE);
        due("the tape stays", x.about(7), 10);
        due("it wasn't read", x.fault(0), 0);
        due("four", x.about(1), 4);
    }

    private static void fault() {
        promise = "6 fault";
        VaneCourt x = new VaneCourt();
        due("ahead of any", x.fault(0), NONE);
        due("ahead of any", x.fault(1), NONE);
        read(x, "delay;");
        due("without", x.fault(0), 0);
        due("without", x.fault(1), NONE);
        read(x, "delay; call 8;");
        due("with", x.fault(0), 2);
        due("with", x.fault(1), 12);
        due("others", x.fault(2), NONE);
        due("others", x.fault(-1), NONE);
        x.back();
        due("isn't of the image", x.fault(0), 2);
        read(x, "");
        due("without again", x.fault(0), 0);
    }

    private static void by() {
        promise = "7 by";
        VaneCourt x = new VaneCourt();
        due("none there", x.by(0), false);
        due("NONE", x.by(NONE), true);
        read(x, "blows 8;");
        due("others", x.by(1), false);
        due("others", x.by(-2), false);
        due("others", x.by(HIGH), false);
        due("it", x.by(0), true);
        due("it rules", x.foretold(1, 1), 8);
        due("a wrong one", x.by(3), false);
        due("changes nothing", x.about(2), 0);
        due("none again", x.by(NONE), true);
        due("none rules", x.foretold(1, 1), 7);
    }

    // ---------------------------------------------------------------- 8 to 16

    private static void call() {
        promise = "8 call";
        VaneCourt x = new VaneCourt();
        due("no such", x.call(0), false);
        x.newCase(0, 5, 1, 1);
        x.newCase(0, 5, 2, 1);
        due("others", x.call(-1), false);
        due("others", x.call(8), false);
        due("others", x.call(HIGH), false);
        due("it", x.call(0), true);
        due("in court", x.ofCase(0, 4), 1);
        due("already", x.call(0), false);
        due("another is", x.call(1), false);
        x.hour(1);
        due("ended", x.call(0), false);
        due("the other", x.call(1), true);
        x.hour(1);
        x.delay();
        x.withdraw();
        x.call(1);
        due("heard anew", x.is(6), 0);
        due("laws anew", x.is(7), 0);
        due("delays anew", x.is(8), 0);
    }

    private static void delay() {
        promise = "9 delay";
        VaneCourt x = new VaneCourt();
        due("none in court", x.delay(), NONE);
        x.newCase(0, 5, 1, 1);
        x.call(0);
        due("1", x.delay(), 1);
        due("2", x.delay(), 2);
        due("3", x.delay(), 3);
        due("4", x.delay(), NONE);
        due("steps", x.about(3), 4);
        due("three hours don't end it", x.hour(3), 0);
        due("the fourth does", x.hour(1), 1);
    }

    private static void appeal() {
        promise = "10 appeal";
        VaneCourt x = ruledBy(STILL);
        x.newCase(0, 5, 1, 1);
        x.newCase(0, 5, 1, 0);
        due("it waits", x.appeal(0), false);
        x.call(0);
        due("it is in court", x.appeal(0), false);
        x.hour(1);
        due("guilty", x.ofCase(0, 4), 3);
        due("its sentence", x.ofCase(0, 5), 5);
        due("it", x.appeal(0), true);
        due("waits again", x.ofCase(0, 4), 0);
        due("no sentence", x.ofCase(0, 5), 0);
        due("appealed", x.ofCase(0, 6), 1);
        due("it waits", x.appeal(0), false);
        x.call(0);
        x.hour(1);
        due("guilty again", x.ofCase(0, 4), 3);
        due("a second time", x.appeal(0), false);
        x.call(1);
        x.hour(1);
        due("acquitted", x.ofCase(1, 4), 2);
        due("acquitted", x.appeal(1), false);
        due("others", x.appeal(2), false);
        due("others", x.appeal(-1), false);
    }

    private static void gust() {
        promise = "11 gust";
        VaneCourt x = new VaneCourt();
        due("both are so", x.gust(0, 3), false);
        due("one is", x.gust(0, 4), true);
        due("the other is", x.gust(3, 4), true);
        due("quarter", x.is(0), 3);
        due("force", x.is(1), 4);
        int[][] bad = {{-1, 0}, {4, 0}, {0, -1}, {0, 10}, {LOW, HIGH}};
        for (int[] b : bad) {
            due("wrong " + Arrays.toString(b), x.gust(b[0], b[1]), false);
        }
        due("steps", x.about(3), 2);
        due("edges", x.gust(0, 0), true);
        due("edges", x.gust(3, 9), true);
        VaneCourt y = new VaneCourt();
        y.hour(2);
        due("fog", y.is(2), 1);
        y.gust(2, 9);
        due("it stays", y.is(2), 1);
    }

    private static void withdraw() {
        promise = "12 withdraw";
        VaneCourt x = new VaneCourt();
        due("none", x.withdraw(), NONE);
        x.newCase(0, 1, 9, 0);
        x.newCase(0, 1, 9, 0);
        x.call(1);
        x.delay();
        x.hour(2);
        due("it", x.withdraw(), 1);
        due("waits", x.ofCase(1, 4), 0);
        for (int i = 6; i <= 8; i++) {
            due("is " + i, x.is(i), 0);
        }
        due("none any more", x.withdraw(), NONE);
        due("steps", x.about(3), 5);
    }

    private static void hour() {
        promise = "13 hour";
        VaneCourt x = new VaneCourt();
        int[] bad = {0, -1, 61, HIGH, LOW};
        for (int b : bad) {
            due("wrong " + b, x.hour(b), NONE);
        }
        // Draws 7, 1, 1, 0, 3, 0, 6 come from 107.
        int[] quarters = {0, 3, 2, 3, 3, 0, 0};
        int[] forces = {7, 1, 1, 0, 3, 0, 6};
        int[] fogs = {0, 1, 0, 0, 0, 0, 0};
        for (int i = 0; i < 7; i++) {
            due("hour", x.hour(1), 0);
            due("quarter", x.is(0), quarters[i]);
            due("force", x.is(1), forces[i]);
            due("fog", x.is(2), fogs[i]);
            due("hour", x.is(3), i + 1);
        }
        VaneCourt y = ruledBy("veers 1; blows 5; fogs 1=0; code 1: gravity=hours; sentence laws*100+quarter*10+hours;");
        y.newCase(0, 3, 3, 0);
        y.call(0);
        due("in 60 one ends", y.hour(60), 1);
        due("by code 1, which was one of its laws", y.ofCase(0, 4), 3);
        due("three laws, south, three hours", y.ofCase(0, 5), 323);
        due("a step each, 30 of them", y.about(3), 30);
        calmAcquits();
        lastHours();
    }

    private static void calmAcquits() {
        VaneCourt x = ruledBy("veers 0; blows force; fogs hour=2;");
        for (int i = 0; i < 3; i++) {
            x.newCase(0, 5, 1, 1);
        }
        x.gust(0, 0);
        x.call(0);
        x.hour(1);
        due("acquitted in a calm", x.ofCase(0, 4), 2);
        x.gust(0, 1);
        x.call(1);
        x.hour(1);
        due("guilty in a wind", x.ofCase(1, 4), 3);
        x.call(2);
        x.hour(1);
        due("acquitted in fog", x.ofCase(2, 4), 2);
        due("its sentence", x.ofCase(2, 5), 0);
    }

    private static void lastHours() {
        VaneCourt x = new VaneCourt();
        passTo(x, 9990);
        due("beyond 9999", x.hour(10), NONE);
        due("nothing was done", x.is(3), 9990);
        due("to 9999", x.hour(9), 0);
        due("no more", x.hour(1), NONE);
        due("at it", x.is(3), 9999);
    }

    private static void played() {
        promise = "14 played";
        VaneCourt x = new VaneCourt();
        due("none there", x.played(0), -2);
        due("NONE", x.played(NONE), -2);
        read(x, "code 0: 1=1; case 4 gravity 6 needs 2; call 0; delay; hour 2; withdraw; gust 2 force 0; veers 2;");
        due("all is done", x.played(0), NONE);
        due("the case's facts", x.ofCase(0, 3), 0);
        due("the case's kind", x.ofCase(0, 0), 4);
        due("the case's gravity", x.ofCase(0, 1), 6);
        due("the case's needs", x.ofCase(0, 2), 2);
        due("quarter", x.is(0), 2);
        due("steps", x.about(3), 6);
        due("its laws don't rule", x.about(2), NONE);
        due("a gust that is so already is the seventh clause", again(x), 6);
        due("others", x.played(1), -2);
        due("others", x.played(HIGH), -2);
        VaneCourt y = new VaneCourt();
        read(y, "hour 3; appeal 0; hour 3;");
        due("an appeal that can't be", y.played(0), 1);
        due("what was done stays", y.is(3), 3);
        read(y, "case 0 gravity 1 needs 1;case 0 gravity 1 needs 1;case 0 gravity 1 needs 1;");
        due("cases", y.played(1), NONE);
        due("cases", y.played(1), NONE);
        due("a ninth case", y.played(1), 2);
        due("eight", y.about(0), 8);
        passTo(y, 9995);
        read(y, "fogs 1=0; hour 5;");
        due("hours that can pass do", y.played(2), 1);
        due("to 9999", y.is(3), 9999);
        VaneCourt z = new VaneCourt();
        passTo(z, 9995);
        read(z, "hour 4; hour 1;");
        due("all that are left, then one more", z.played(0), 1);
        due("to 9999", z.is(3), 9999);
        readEach("call 0;");
        readEach("delay;");
        readEach("withdraw;");
        readEach("gust 0 force 3;");
    }

    private static void readEach(String deed) {
        VaneCourt x = new VaneCourt();
        read(x, deed);
        due(deed, x.played(0), 0);
    }

    private static int again(VaneCourt x) {
        VaneCourt y = x;
        y.back();
        read(y, "gust 2 force 0;hour 1;gust 1 force 9;gust 1 force 8;delay;gust 1 force 8;gust 1 force 8;");
        due("the delay can't be", y.played(0), 4);
        y.back();
        read(y, "fogs 1=1;veers 1;gust 1 force 9;gust 1 force 8;blows 1;gust 1 force 7;gust 1 force 7;");
        return y.played(0);
    }

    private static void decades() {
        promise = "15 decades";
        VaneCourt x = new VaneCourt();
        due("without cases", x.decades(0, 1), NONE);
        x.newCase(0, 5, 1, 1);
        x.newCase(0, 5, 1, 1);
        int[][] bad = {{-1, 1}, {10000, 1}, {0, 0}, {0, 41}, {LOW, 1}, {0, HIGH}};
        for (int[] b : bad) {
            due("wrong " + Arrays.toString(b), x.decades(b[0], b[1]), NONE);
        }
        due("no step", x.about(3), 0);
        // X is 1107: 1107 mod 7 is 1, 1107 mod 2 is 1; then 1982 (1107 * 331 + 223 mod 30389): mod 7 is 1.
        due("one draw", x.decades(500, 1), 0);
        due("case 1 is called", x.is(5), 1);
        due("X", x.is(4), (1107 * 331 + 223) % 30389);
        due("one step", x.about(3), 1);
        due("edges", x.decades(9999, 40) >= 0, true);
        due("one step each", x.about(3), 2);
        x.undo();
        due("all of it is taken back", x.is(4), (1107 * 331 + 223) % 30389);
        due("all of it is taken back", x.is(5), 1);
        decadesAsByHand();
    }

    /** Lives through decades by the other calls. */
    private static void decadesAsByHand() {
        for (int seed = 0; seed < 60; seed++) {
            VaneCourt x = new VaneCourt();
            VaneCourt y = new VaneCourt();
            for (int c = 0; c < 3; c++) {
                x.newCase(0, 5, 1 + c, 1);
                y.newCase(0, 5, 1 + c, 1);
            }
            // A first draw that does nothing else sets X to the seed; draws by hand go on from there.
            int hour = x.decades(seed, 30);
            int at = seed * 2 + 107;
            for (int i = 0; i < 30; i++) {
                int deed = at % 7;
                int c = at % 3;
                at = (at * 331 + 223) % 30389;
                if (deed <= 1) {
                    y.call(c);
                } else if (deed == 2) {
                    y.delay();
                } else if (deed == 3) {
                    y.appeal(c);
                } else {
                    passByDraw(y, at % 10);
                    at = (at * 331 + 223) % 30389;
                }
            }
            due("hour of seed " + seed, hour, y.is(3));
            for (int w = 0; w <= 8; w++) {
                if (w != 4) {
                    due("is " + w + " of seed " + seed, x.is(w), y.is(w));
                }
            }
            due("X of seed " + seed, x.is(4), at);
            due("book of seed " + seed, x.book(NONE, 0), y.book(NONE, 0));
        }
    }

    /** An hour with a draw that the test chooses: the wind behind it is set by a gust, fog by the text that rules. */
    private static void passByDraw(VaneCourt y, int draw) {
        int quarter = (y.is(0) + (draw == 0 ? 1 : draw == 1 ? 3 : 0)) % 4;
        boolean fog = draw < 2 && (y.is(3) + 1) % 10 < 3;
        y.by(NONE);
        if (y.about(1) == 0) {
            read(y, "fogs 1=0;");
            read(y, "fogs 1=1;");
        }
        y.by(fog ? 1 : 0);
        y.hour(1);
        y.gust(quarter, draw);
    }

    private static void undo() {
        promise = "16 undo";
        VaneCourt x = new VaneCourt();
        due("none", x.undo(), NONE);
        x.newCase(0, 5, 1, 1);
        x.newCase(0, 6, 1, 1);
        x.call(0);
        x.delay();
        x.withdraw();
        x.call(0);
        x.hour(1);
        x.appeal(0);
        x.gust(2, 2);
        x.newCase(1, 1, 1, 1);
        due("gust", x.undo(), 6);
        due("gust", x.is(0) * 10 + x.is(1), 7);
        due("appeal", x.undo(), 5);
        due("guilty again", x.ofCase(0, 4), 3);
        due("its sentence again", x.ofCase(0, 5), 5);
        due("not appealed", x.ofCase(0, 6), 0);
        due("hour", x.undo(), 4);
        due("in court again", x.is(5), 0);
        due("X again", x.is(4), 107);
        due("the book too", x.book(NONE, 0), 0);
        due("call", x.undo(), 3);
        due("nobody", x.is(5), NONE);
        due("withdraw", x.undo(), 2);
        due("delays again", x.is(8), 1);
        due("delay", x.undo(), 1);
        due("call", x.undo(), 0);
        due("waits", x.ofCase(0, 4), 0);
        due("none any more", x.undo(), NONE);
        due("cases stay", x.about(0), 3);
        undoOfCasesTold();
        undoOfLong();
    }

    private static void undoOfCasesTold() {
        VaneCourt x = new VaneCourt();
        x.hour(1);
        x.newCase(0, 5, 1, 1);
        x.call(0);
        x.hour(1);
        due("it ended", x.ofCase(0, 4), 3);
        x.undo();
        x.undo();
        due("told since, it waits", x.ofCase(0, 4), 0);
        x.undo();
        due("told since, it waits", x.ofCase(0, 4), 0);
        due("as told", x.ofCase(0, 1), 5);
        due("it can be called", x.call(0), true);
    }

    private static void undoOfLong() {
        VaneCourt x = new VaneCourt();
        x.hour(45);
        for (int i = 29; i >= 0; i--) {
            due("undo", x.undo(), i);
        }
        due("the latest 30 alone", x.undo(), NONE);
        due("hour", x.is(3), 15);
        VaneCourt y = new VaneCourt();
        y.newCase(0, 5, 1, 1);
        y.newCase(0, 5, 2, 1);
        y.newCase(0, 5, 1, 1);
        y.decades(5, 40);
        int entries = y.book(NONE, 0);
        y.decades(6, 40);
        y.undo();
        due("decades are one step", y.about(3), 1);
        due("the book as ahead of it", y.book(NONE, 0), entries);
    }

    // ---------------------------------------------------------------- 17 to 24

    private static void ofCase() {
        promise = "17 ofCase";
        VaneCourt x = ruledBy(STILL);
        due("none", x.ofCase(0, 0), NONE);
        x.newCase(3, 4, 2, 129);
        int[] told = {3, 4, 2, 129, 0, 0, 0};
        for (int i = 0; i < 7; i++) {
            due("of it " + i, x.ofCase(0, i), told[i]);
        }
        due("others", x.ofCase(0, 7), NONE);
        due("others", x.ofCase(0, -1), NONE);
        due("others", x.ofCase(-1, 0), NONE);
        due("others", x.ofCase(8, 0), NONE);
        due("others", x.ofCase(HIGH, LOW), NONE);
        x.call(0);
        due("in court", x.ofCase(0, 4), 1);
        x.hour(2);
        due("guilty", x.ofCase(0, 4), 3);
        due("sentence", x.ofCase(0, 5), 8);
    }

    private static void is() {
        promise = "18 is";
        VaneCourt x = new VaneCourt();
        x.newCase(0, 1, 9, 0);
        x.call(0);
        x.delay();
        x.delay();
        x.hour(4);
        int[] now = {3, 0, 0, 4, 13293, 0, 4, 13, 2};
        for (int i = 0; i < 9; i++) {
            due("is " + i, x.is(i), now[i]);
        }
        due("others", x.is(9), -2);
        due("others", x.is(-1), -2);
        due("others", x.is(LOW), -2);
        due("others", x.is(HIGH), -2);
    }

    private static void book() {
        promise = "19 book";
        VaneCourt x = ruledBy(STILL);
        due("none", x.book(0, 0), -2);
        x.newCase(0, 9, 1, 1);
        x.newCase(0, 4, 1, 0);
        x.hour(2);
        x.call(0);
        x.hour(1);
        x.call(1);
        x.hour(3);
        due("two", x.book(NONE, 0), 2);
        int[][] all = {{2, 0, 1, 9}, {3, 1, 0, 0}};
        for (int i = 0; i < 2; i++) {
            for (int w = 0; w < 4; w++) {
                due("of " + i + " " + w, x.book(i, w), all[i][w]);
            }
        }
        due("others", x.book(2, 0), -2);
        due("others", x.book(-2, 0), -2);
        due("others", x.book(0, 4), -2);
        due("others", x.book(0, -1), -2);
        due("others", x.book(HIGH, HIGH), -2);
        longBook();
    }

    /** Eight cases end twice at most, once by an appeal. */
    private static void longBook() {
        VaneCourt x = ruledBy("veers 0; blows 5; fogs 1=0; sentence 999;");
        for (int i = 0; i < 8; i++) {
            x.newCase(0, 9, 1, 1);
        }
        int ends = 0;
        for (int round = 0; round < 2; round++) {
            for (int c = 0; c < 8; c++) {
                x.call(c);
                x.hour(1);
                x.appeal(c);
                ends++;
            }
        }
        due("eight cases end twice at most", x.book(NONE, 0), ends);
        due("hours", x.book(15, 0), 15);
        due("the greatest sentence", x.book(15, 3), 999);
    }

    private static void foretold() {
        promise = "20 foretold";
        VaneCourt x = new VaneCourt();
        int[] quarters = {0, 3, 2, 3, 3, 0, 0};
        int[] forces = {7, 1, 1, 0, 3, 0, 6};
        int[] fogs = {0, 1, 0, 0, 0, 0, 0};
        for (int i = 0; i < 7; i++) {
            due("quarter", x.foretold(i + 1, 0), quarters[i]);
            due("force", x.foretold(i + 1, 1), forces[i]);
            due("fog", x.foretold(i + 1, 2), fogs[i]);
        }
        int quarter = x.foretold(60, 0);
        int force = x.foretold(60, 1);
        due("nothing changes", x.is(4), 107);
        due("no hour", x.is(3), 0);
        int[][] bad = {{0, 0}, {61, 0}, {-1, 0}, {1, 3}, {1, -1}, {HIGH, 0}};
        for (int[] b : bad) {
            due("wrong " + Arrays.toString(b), x.foretold(b[0], b[1]), NONE);
        }
        x.hour(60);
        due("so it comes", x.is(0), quarter);
        due("so it comes", x.is(1), force);
        foretoldUpTo9999();
    }

    private static void foretoldUpTo9999() {
        // These laws tell the hours apart: 9995 to 9999 have the forces 5 to 9, the quarters 1, 0, 3, 2, 1.
        VaneCourt x = ruledBy("veers -1;blows hour-hour/10*10;fogs hour=9999;");
        passTo(x, 9995);
        int[] quarters = {1, 0, 3, 2, 1};
        for (int n = 1; n <= 60; n++) {
            int hours = Math.min(n, 4);
            due("quarter behind " + n, x.foretold(n, 0), quarters[hours]);
            due("force behind " + n, x.foretold(n, 1), 5 + hours);
            due("fog behind " + n, x.foretold(n, 2), n >= 4 ? 1 : 0);
        }
        int[][] bad = {{0, 0}, {61, 0}, {-1, 1}, {5, 3}, {60, -1}, {HIGH, 2}, {LOW, 2}};
        for (int[] b : bad) {
            due("wrong near 9999 " + Arrays.toString(b), x.foretold(b[0], b[1]), NONE);
        }
        due("no hour", x.is(3), 9995);
        x.hour(4);
        x.gust(2, 6);
        int[] hours = {1, 2, 60};
        for (int n : hours) {
            due("at 9999 the quarter as now", x.foretold(n, 0), 2);
            due("at 9999 the force as now", x.foretold(n, 1), 6);
            due("at 9999 the fog as now", x.foretold(n, 2), 1);
        }
        due("at 9999 no other", x.foretold(1, 3), NONE);
        due("at 9999 no other", x.foretold(0, 0), NONE);
    }

    private static void ends() {
        promise = "21 ends";
        VaneCourt x = new VaneCourt();
        x.newCase(2, 3, 2, 1);
        // Heard in hours 0 and 1 by law 0: guilty; with a delay it ends in the fog of hour 2; with two by laws 0, 3, 2.
        int[][] byDelays = {{2, 1, 6}, {3, 0, 0}, {4, 1, 12}, {5, 0, 0}};
        for (int d = 0; d < 4; d++) {
            for (int w = 0; w < 3; w++) {
                due("delays " + d + " " + w, x.ends(0, 0, d, w), byDelays[d][w]);
            }
        }
        int[][] bad = {{-1, 0, 0, 0}, {1, 0, 0, 0}, {0, -1, 0, 0}, {0, 21, 0, 0}, {0, 0, -1, 0}, {0, 0, 4, 0},
            {0, 0, 0, 3}, {0, 0, 0, -1}};
        for (int[] b : bad) {
            due("wrong " + Arrays.toString(b), x.ends(b[0], b[1], b[2], b[3]), NONE);
        }
        due("edges", x.ends(0, 20, 3, 0), 25);
        endsComeSo();
        x.newCase(0, 1, 1, 0);
        x.call(0);
        due("in court", x.ends(0, 0, 0, 0), NONE);
        due("another is withdrawn", x.ends(1, 0, 0, 0), 1);
        VaneCourt y = new VaneCourt();
        y.newCase(0, 3, 2, 1);
        passTo(y, 9990);
        due("till 9999", y.ends(0, 7, 0, 0), 9);
        due("not beyond it", y.ends(0, 8, 0, 0), NONE);
        due("not beyond it", y.ends(0, 7, 1, 0), NONE);
    }

    private static void endsComeSo() {
        for (int k = 0; k <= 20; k++) {
            for (int d = 0; d <= 3; d++) {
                VaneCourt x = ruledBy("code 2: kind=hours-1; veers draw-4; sentence hour*9+laws-quarter*force;");
                x.newCase(3, 8, 3, 7);
                int hours = x.ends(0, k, d, 0);
                int verdict = x.ends(0, k, d, 1);
                int sentence = x.ends(0, k, d, 2);
                if (k > 0) {
                    x.hour(k);
                }
                x.call(0);
                for (int i = 0; i < d; i++) {
                    x.delay();
                }
                x.hour(3 + d);
                due("hours", x.is(3), hours);
                due("verdict " + k + " " + d, x.ofCase(0, 4), 2 + verdict);
                due("sentence " + k + " " + d, x.ofCase(0, 5), sentence);
            }
        }
    }

    private static void best() {
        promise = "22 best";
        VaneCourt x = new VaneCourt();
        x.newCase(2, 3, 2, 1);
        due("guilty k", x.best(0, true, 0), 0);
        due("guilty d", x.best(0, true, 1), 0);
        due("guilty hours", x.best(0, true, 2), 2);
        // Three hours by a delay, or called an hour later: the least k.
        due("acquitted k", x.best(0, false, 0), 0);
        due("acquitted d", x.best(0, false, 1), 1);
        due("acquitted hours", x.best(0, false, 2), 3);
        due("others", x.best(0, false, 3), NONE);
        due("others", x.best(0, false, -1), NONE);
        due("others", x.best(1, false, 0), NONE);
        due("others", x.best(-1, false, 0), NONE);
        VaneCourt y = ruledBy(STILL + "code 0: hours=12 or hour=22;");
        y.newCase(0, 1, 9, 0);
        due("by three delays", y.best(0, true, 1), 3);
        due("k", y.best(0, true, 0), 0);
        due("hours", y.best(0, true, 2), 12);
        y.newCase(0, 1, 2, 0);
        due("late: hour 22 ends as 23", y.best(1, true, 2), 23);
        due("the least k", y.best(1, true, 0), 18);
        due("so all delays", y.best(1, true, 1), 3);
        VaneCourt z = ruledBy(STILL + "code 0: hour=24 and hours=5;");
        z.newCase(0, 1, 2, 0);
        due("the latest call, all delays", z.best(0, true, 0), 20);
        due("the latest call, all delays", z.best(0, true, 1), 3);
        due("the latest call, all delays", z.best(0, true, 2), 25);
        y.newCase(0, 1, 5, 0);
        due("none acquitted", ruledAll().best(0, false, 0), NONE);
        y.call(2);
        due("in court", y.best(2, false, 0), NONE);
    }

    /** A case guilty by all. */
    private static VaneCourt ruledAll() {
        VaneCourt x = ruledBy(STILL + "code 0: 1=1;");
        x.newCase(0, 1, 1, 0);
        return x;
    }

    private static void harshest() {
        promise = "23 harshest";
        VaneCourt x = ruledBy(STILL + "sentence 100-(hour-15)*(hour-15);");
        x.newCase(0, 3, 2, 1);
        x.newCase(0, 3, 2, 0);
        due("in hour 15", x.harshest(0), 100);
        due("acquitted always", x.harshest(1), 0);
        due("others", x.harshest(2), NONE);
        due("others", x.harshest(-1), NONE);
        x.call(0);
        due("in court", x.harshest(0), NONE);
        VaneCourt y = ruledBy(STILL + "sentence hour;");
        y.newCase(0, 3, 2, 1);
        due("k 20, three delays, the last of five hours", y.harshest(0), 24);
        passTo(y, 9998);
        due("without an end", y.harshest(0), 0);
        VaneCourt z = ruledBy(STILL + "sentence 99-hour-hours;");
        z.newCase(0, 3, 2, 1);
        due("called now, not delayed", z.harshest(0), 96);
    }

    private static void odds() {
        promise = "24 odds";
        VaneCourt x = new VaneCourt();
        due("none in court", x.odds(false), NONE);
        due("none in court", x.odds(true), NONE);
        x.newCase(0, 5, 4, 1);
        x.call(0);
        due("four hours to go", x.odds(false), NONE);
        x.hour(1);
        // Hours 2 and 3 come: in hour 3 there is a calm by D 0 alone.
        due("three to go", x.odds(false), 9);
        due("three to go", x.odds(true), 10);
        x.hour(1);
        due("two to go", x.odds(false), 9);
        x.delay();
        due("three to go", x.odds(true) > 0, true);
        x.delay();
        due("four to go", x.odds(true), NONE);
        VaneCourt y = ruledBy("veers 0; blows draw; fogs draw=9; code 0: hours=2 and force>3;");
        y.newCase(0, 5, 2, 0);
        y.call(0);
        due("force 4 to 8", y.odds(false), 1);
        due("of ten", y.odds(true), 2);
        y.hour(1);
        due("one to go: force 7", y.odds(false), 1);
        due("one to go", y.odds(true), 1);
        y.gust(0, 3);
        due("one to go: force 3", y.odds(false), 0);
        due("nought of one", y.odds(true), 1);
        oddsOfTwoDraws();
    }

    private static void oddsOfTwoDraws() {
        VaneCourt x = ruledBy("veers draw; blows force+draw/9; fogs 1=0; code 0: 1=1; code 1: 1=0; code 2: 1=0; code 3: 1=0;");
        x.newCase(0, 5, 3, 0);
        x.gust(1, 1);
        x.call(0);
        // From quarter 1 by 3 (draws 3 to 9) it is 0 in the second hour; else (0, 1, 2: quarters 1, 2, 3) the third
        // hour is 0 by 3 (7 draws), by 2 (1 draw), by 1 (1 draw): 70 + 7 - 0 and so on.
        // draw 0: 1, needs 3: draws 3 to 9: 7; draw 1: 2, needs 2: 1; draw 2: 3, needs 1: 1.
        due("ways", x.odds(false), 79);
        due("of all", x.odds(true), 100);
        passTo9998(x);
    }

    private static void passTo9998(VaneCourt x) {
        x.withdraw();
        passTo(x, 9999);
        x.call(0);
        x.gust(1, 1);
        due("9999 aside", x.odds(false), 79);
    }

    // ---------------------------------------------------------------- 25 to 32

    private static void clash() {
        promise = "25 clash";
        VaneCourt x = ruledBy("code 1: kind=2 and hours=4 and hour=3; code 3: quarter=3 and force=0 or fact 7;");
        x.newCase(2, 9, 4, 0);
        x.newCase(2, 1, 4, 129);
        due("without facts", x.clash(0), 0);
        due("code 0 without, fact 7", x.clash(1), 9);
        x.by(NONE);
        due("none rules", x.clash(1), 1);
        x.by(0);
        x.hour(3);
        due("hour 3", x.clash(0), 2);
        x.gust(1, 0);
        due("a calm, a code's quarter", x.clash(0), 10);
        x.call(0);
        due("in court", x.clash(0), 10);
        due("others", x.clash(2), NONE);
        due("others", x.clash(-1), NONE);
        due("others", x.clash(HIGH), NONE);
    }

    private static void leastFacts() {
        promise = "26 leastFacts";
        VaneCourt x = new VaneCourt();
        x.newCase(0, 3, 1, 1);
        x.newCase(0, 4, 1, 1);
        due("fact 0", x.leastFacts(0), 1);
        due("alike already", x.leastFacts(1), 0);
        due("others", x.leastFacts(2), NONE);
        due("others", x.leastFacts(-1), NONE);
        VaneCourt y = ruledBy("code 0:1=1;code 1:fact 7;code 2:fact 5;code 3:fact 7 and fact 5 or fact 2 and fact 7;");
        y.newCase(0, 1, 1, 0);
        y.newCase(0, 1, 1, 128);
        y.newCase(0, 1, 1, 160);
        due("two of them", y.leastFacts(0), 160);
        due("one", y.leastFacts(1), 32);
        due("none", y.leastFacts(2), 0);
        VaneCourt z = ruledBy("code 0:1=1;code 1:1=0;code 2:fact 7;code 3:fact 3;");
        z.newCase(0, 1, 1, 3);
        due("never alike", z.leastFacts(0), NONE);
        VaneCourt v = ruledBy("code 0:fact 0 and fact 1 and fact 2 and fact 3 and fact 4 and fact 5 and fact 6 and fact 7;"
                + "code 1:1=1;code 2:1=1;code 3:1=1;");
        v.newCase(0, 1, 1, 0);
        due("all eight", v.leastFacts(0), 255);
        VaneCourt w = ruledBy("code 0:fact 6 or fact 4;code 1:1=1;code 2:1=1;code 3:1=1;");
        w.newCase(0, 1, 1, 0);
        due("the lowest of like ones", w.leastFacts(0), 16);
    }

    private static void game() {
        promise = "27 game";
        // Guilty by hours heard: needs 1, so delays 0 to 3 are hours 1 to 4.
        int[][] tables = {
            // sentences by delays (0: acquitted), accuser first: value, delays; defender first: value, delays
            {10, 20, 30, 40}, {40, 30, 20, 10}, {0, 0, 0, 7}, {7, 0, 0, 0}, {5, 0, 0, 9}, {5, 5, 5, 5}, {0, 9, 0, 8}};
        for (int[] t : tables) {
            VaneCourt x = ruledBy(STILL + "code 0: hours=1 and " + t[0] + ">0 or hours=2 and " + t[1]
                    + ">0 or hours=3 and " + t[2] + ">0 or hours=4 and " + t[3] + ">0; sentence " + law(t));
            x.newCase(0, 1, 1, 0);
            for (int first = 0; first < 2; first++) {
                int[] delays = new int[1];
                int value = duel(t, first == 0, 0, 0, delays);
                due("value " + Arrays.toString(t) + first, x.game(0, first == 0, false), value);
                due("delays " + Arrays.toString(t) + first, x.game(0, first == 0, true), delays[0]);
            }
        }
        VaneCourt x = new VaneCourt();
        x.newCase(0, 3, 1, 1);
        due("others", x.game(1, true, false), NONE);
        due("others", x.game(-1, true, true), NONE);
        x.call(0);
        due("in court", x.game(0, true, false), NONE);
        VaneCourt z = ruledBy(STILL + "code 0: 1=1; sentence 0;");
        z.newCase(0, 1, 1, 0);
        due("guilty without a sentence", z.game(0, true, false), 100000);
        VaneCourt y = ruledAll();
        passTo(y, 9998);
        due("delays that keep it from ending are nought", y.game(0, false, false), 0);
        due("the defender may delay later too", y.game(0, false, true), 0);
        due("the other can't hinder it", y.game(0, true, false), 0);
    }

    private static String law(int[] t) {
        int a = t[0];
        int b = t[1] - t[0];
        int c = t[2] - t[1];
        int d = t[3] - t[2];
        // Of hours 1 to 4: whether there are 2, 3, 4 at least.
        return a + "+" + signed(b) + "*(hours/2-hours/4)+" + signed(c) + "*(hours/3)+" + signed(d) + "*(hours/4);";
    }

    private static String signed(int n) {
        return n < 0 ? "(-" + -n + ")" : "" + n;
    }

    private static int duel(int[] t, boolean accuser, int turn, int d, int[] delays) {
        if (turn == 6) {
            return t[d] == 0 ? 0 : 100000 + t[d];
        }
        int stay = duel(t, !accuser, turn + 1, d, new int[1]);
        int go = d == 3 ? stay : duel(t, !accuser, turn + 1, d + 1, new int[1]);
        boolean goes = accuser ? go > stay : go < stay;
        delays[0] = goes ? 1 : 0;
        return goes ? go : stay;
    }

    private static void session() {
        promise = "28 session";
        VaneCourt x = ruledBy(STILL + "sentence (hour+1)*gravity;");
        x.newCase(0, 1, 1, 1);
        x.newCase(0, 9, 1, 1);
        x.newCase(0, 5, 1, 1);
        // The gravest last: 1 * 1 + 2 * 5 + 3 * 9.
        due("sum", x.session(7, NONE), 38);
        due("first", x.session(7, 0), 0);
        due("second", x.session(7, 1), 2);
        due("third", x.session(7, 2), 1);
        due("one alone", x.session(4, NONE), 5);
        due("one alone", x.session(4, 0), 2);
        int[][] bad = {{0, NONE}, {8, NONE}, {256, NONE}, {-1, NONE}, {7, 3}, {7, -2}, {1, 1}, {HIGH, 0}, {LOW, 0}};
        for (int[] b : bad) {
            due("wrong " + Arrays.toString(b), x.session(b[0], b[1]), -2);
        }
        x.call(1);
        due("in court", x.session(2, NONE), -2);
        due("others, it is withdrawn", x.session(5, NONE), 11);
        VaneCourt y = ruledBy(STILL);
        for (int i = 0; i < 6; i++) {
            y.newCase(0, 5, 1, 1);
        }
        due("six", y.session(63, NONE), -2);
        due("five", y.session(62, NONE), 25);
        for (int i = 0; i < 5; i++) {
            due("of like ones the lowest", y.session(62, i), i + 1);
        }
        sessionAtTheEnd();
    }

    private static void sessionAtTheEnd() {
        VaneCourt x = ruledBy(STILL + "sentence gravity;");
        x.newCase(0, 9, 9, 1);
        x.newCase(0, 3, 2, 1);
        x.newCase(0, 4, 2, 1);
        passTo(x, 9996);
        // Three hours are left: one of the short ones ends.
        due("sum", x.session(7, NONE), 4);
        due("first", x.session(7, 0), 2);
        due("of like ones the lowest", x.session(7, 1), 0);
        due("the last", x.session(7, 2), 1);
    }

    private static void record() {
        promise = "29 record";
        VaneCourt x = new VaneCourt();
        due("no case", x.record(0, 0, true), -2);
        x.newCase(0, 3, 1, 1);
        due("others", x.record(1, 0, true), -2);
        due("others", x.record(-2, 0, true), -2);
        due("others", x.record(0, 4, true), -2);
        due("others", x.record(0, -1, true), -2);
        for (int i = 1; i <= 8; i++) {
            due("one more", x.record(0, 3, true), i);
        }
        due("a ninth", x.record(0, 3, true), -2);
        due("eight", x.about(4), 8);
        due("none any more", x.record(NONE, 0, true), 0);
        due("none", x.about(4), 0);
        due("none", x.turned(), 15);
        due("anew", x.record(0, 0, true), 1);
    }

    private static void turned() {
        promise = "30 turned";
        VaneCourt x = new VaneCourt();
        due("without records", x.turned(), 15);
        x.newCase(0, 2, 1, 1);
        // Guilty by codes 0 and 1.
        x.record(0, 2, true);
        due("2 and 2, 3 more", x.turned(), 12);
        x.record(0, 3, false);
        due("not 3 and 2 more, but 3 and 3 more", x.turned(), 8);
        x.record(0, 2, false);
        due("none", x.turned(), 0);
        VaneCourt y = ruledBy("code 0: 1=0; code 1: hours=4 and force=3; code 2: hour=7; code 3: quarter=3;");
        y.newCase(0, 1, 4, 0);
        y.record(0, 0, true);
        due("codes 1 and 3", y.turned(), 10);
        y.gust(0, 9);
        due("the wind as now", y.turned(), 8);
    }

    private static void fewestWrong() {
        promise = "31 fewestWrong";
        VaneCourt x = new VaneCourt();
        due("without records", x.fewestWrong(), 0);
        x.newCase(0, 1, 1, 1);
        x.record(0, 0, true);
        x.record(0, 1, true);
        due("code 0 alone says so", x.fewestWrong(), 1);
        x.record(0, 2, true);
        x.record(0, 3, true);
        due("three", x.fewestWrong(), 3);
        x.record(0, 3, true);
        due("3 and 1 more is right twice", x.fewestWrong(), 3);
        x.record(NONE, 0, true);
        x.newCase(0, 1, 1, 0);
        for (int i = 0; i < 8; i++) {
            x.record(1, 0, true);
        }
        due("all eight", x.fewestWrong(), 8);
    }

    private static void whose() {
        promise = "32 whose";
        VaneCourt x = new VaneCourt();
        due("no texts", x.whose(), 0);
        x.newCase(0, 1, 1, 1);
        read(x, "code 1: 1=1;");
        read(x, "code 0: 1=0; code 1: fact 0;");
        read(x, "delay;");
        due("without records", x.whose(), 7);
        x.record(0, 1, true);
        due("codes 1", x.whose(), 3);
        x.record(0, 0, true);
        due("code 0 without", x.whose(), 1);
        x.record(NONE, 0, true);
        x.record(0, 2, false);
        due("code 2 without", x.whose(), 7);
        x.by(1);
        due("whatever rules", x.whose(), 7);
    }

    // ---------------------------------------------------------------- 33 to 43

    private static void learn() {
        promise = "33 learn";
        VaneCourt x = new VaneCourt();
        due("no case", x.learn(0, true), -2);
        x.newCase(0, 1, 1, 3);
        due("others", x.learn(1, true), -2);
        due("others", x.learn(-2, true), -2);
        for (int i = 1; i <= 8; i++) {
            due("one more", x.learn(0, true), i);
        }
        due("a ninth", x.learn(0, true), -2);
        due("none any more", x.learn(NONE, true), 0);
        due("none", x.about(5), 0);
        due("all codes", x.codes(NONE), 256);
    }

    private static void codes() {
        promise = "34 codes";
        VaneCourt x = new VaneCourt();
        due("all", x.codes(NONE), 256);
        due("the last", x.codes(255), 255);
        due("others", x.codes(256), NONE);
        due("others", x.codes(-2), NONE);
        due("others", x.codes(HIGH), NONE);
        x.newCase(0, 1, 1, 0b1101);
        x.newCase(0, 1, 1, 0b0101);
        x.learn(0, true);
        due("the sets within it", x.codes(NONE), 8);
        x.learn(1, false);
        due("with fact 3", x.codes(NONE), 4);
        int[] all = {8, 9, 12, 13};
        for (int i = 0; i < 4; i++) {
            due("the i-th", x.codes(i), all[i]);
        }
        due("beyond", x.codes(4), NONE);
        x.learn(0, false);
        due("none", x.codes(NONE), 0);
        due("none", x.codes(0), NONE);
    }

    private static void sure() {
        promise = "35 sure";
        VaneCourt x = new VaneCourt();
        due("no case", x.sure(0), NONE);
        x.newCase(0, 1, 1, 0b1101);
        x.newCase(0, 1, 1, 0b0101);
        x.newCase(0, 1, 1, 0b1000);
        x.newCase(0, 1, 1, 0b1111);
        due("neither", x.sure(0), NONE);
        x.learn(0, true);
        x.learn(1, false);
        due("by all", x.sure(3), 1);
        due("by none", x.sure(1), 0);
        due("neither", x.sure(2), NONE);
        due("others", x.sure(4), NONE);
        due("others", x.sure(-1), NONE);
        x.learn(0, false);
        due("without any", x.sure(3), NONE);
    }

    private static void toBring() {
        promise = "36 toBring";
        VaneCourt x = new VaneCourt();
        due("no case", x.toBring(), NONE);
        x.newCase(0, 1, 1, 255);
        due("by all", x.toBring(), NONE);
        x.newCase(0, 1, 1, 0b0111);
        due("by eight of 256", x.toBring(), 1);
        x.newCase(0, 1, 1, 0b01111111);
        x.newCase(0, 1, 1, 0b11111110);
        due("by half, the lowest", x.toBring(), 2);
        x.learn(2, true);
        due("of 128: by 64", x.toBring(), 3);
        x.learn(3, true);
        due("of 64: by four", x.toBring(), 1);
        x.learn(1, true);
        due("by all of four", x.toBring(), NONE);
        x.learn(0, false);
        due("without any", x.toBring(), NONE);
    }

    private static void counsel() {
        promise = "37 counsel";
        VaneCourt x = new VaneCourt();
        int[][] bad = {{0, 1}, {1000, 1}, {1, -1}, {1, 100}, {-2, 1}, {HIGH, 1}};
        for (int[] b : bad) {
            due("wrong " + Arrays.toString(b), x.counsel(b[0], b[1]), -2);
        }
        due("edges", x.counsel(1, 0), 1);
        due("edges", x.counsel(999, 99), 2);
        for (int i = 3; i <= 8; i++) {
            due("one more", x.counsel(5, 5), i);
        }
        due("a ninth", x.counsel(5, 5), -2);
        due("none any more", x.counsel(NONE, 5), 0);
        due("none", x.about(6), 0);
        due("none to hire", x.hired(9999, false), 0);
    }

    private static void hired() {
        promise = "38 hired";
        VaneCourt x = new VaneCourt();
        due("none", x.hired(0, true), 0);
        x.counsel(60, 10);
        x.counsel(50, 60);
        x.counsel(50, 60);
        x.counsel(100, 99);
        x.counsel(1, 0);
        due("two for 100", x.hired(100, false), 120);
        due("two for 100", x.hired(100, true), 6);
        due("one for 99, the lowest", x.hired(99, false), 60);
        due("one for 99, the lowest", x.hired(99, true), 2);
        due("nobody", x.hired(49, false), 0);
        due("the cheapest is nobody", x.hired(49, true), 0);
        due("all but skill 0", x.hired(9999, true), 15);
        due("all", x.hired(9999, false), 229);
        due("others", x.hired(-1, false), NONE);
        due("others", x.hired(10000, true), NONE);
        x.counsel(40, 60);
        due("the cheaper of like ones", x.hired(50, true), 32);
    }

    private static void calm() {
        promise = "39 calm";
        VaneCourt x = new VaneCourt();
        // Calm or fog: offsets 2, 4, 6 of the first eight.
        due("two", x.calm(2), 0);
        due("three", x.calm(3), 1);
        due("seven", x.calm(7), 1);
        due("others", x.calm(0), NONE);
        due("others", x.calm(61), NONE);
        due("others", x.calm(LOW), NONE);
        VaneCourt y = ruledBy("blows hour; fogs hour>=10 and hour<15 or hour=17;");
        due("hours 10 to 14", y.calm(60), 5);
        due("the last isn't asked for", y.calm(14), 4);
        y.gust(1, 0);
        due("the first as now", y.calm(1), 1);
        passTo(y, 9996);
        due("no fog there", y.calm(60), 0);
        VaneCourt z = ruledBy("fogs 1=1;");
        passTo(z, 9996);
        due("those that can pass", z.calm(60), 3);
        passTo(z, 9999);
        due("none can", z.calm(60), 0);
    }

    private static void standing() {
        promise = "40 standing";
        VaneCourt x = new VaneCourt();
        int[] many = {4, 0, 1, 3};
        for (int q = 0; q < 4; q++) {
            due("of eight " + q, x.standing(8, q), many[q]);
        }
        due("the first as now", x.standing(1, 0), 1);
        int[][] bad = {{0, 0}, {61, 0}, {1, -1}, {1, 4}, {HIGH, 0}};
        for (int[] b : bad) {
            due("wrong " + Arrays.toString(b), x.standing(b[0], b[1]), NONE);
        }
        VaneCourt y = ruledBy("veers 0;");
        passTo(y, 9990);
        due("those that can pass", y.standing(60, 0), 9);
        due("sixty", ruledBy("veers 1;").standing(60, 3), 15);
    }

    private static void image() {
        promise = "41 image";
        VaneCourt x = new VaneCourt();
        due("hour", x.image(), 0);
        x.newCase(0, 5, 2, 1);
        x.hour(7);
        x.call(0);
        x.hour(1);
        due("hour", x.image(), 8);
        due("no step", x.about(3), 9);
        x.hour(3);
        due("hour", x.image(), 11);
        x.hour(3);
        due("the latest image", x.back(), 11);
    }

    private static void back() {
        promise = "42 back";
        VaneCourt x = new VaneCourt();
        x.newCase(0, 5, 2, 1);
        read(x, "blows 4;");
        x.by(0);
        x.record(0, 1, true);
        x.learn(0, true);
        x.counsel(4, 4);
        x.call(0);
        x.delay();
        x.hour(2);
        int[] were = new int[9];
        for (int i = 0; i < 9; i++) {
            were[i] = x.is(i);
        }
        x.image();
        x.hour(5);
        x.newCase(0, 1, 1, 1);
        x.appeal(0);
        read(x, "blows 9;");
        x.by(1);
        x.record(0, 2, true);
        x.learn(NONE, true);
        x.learn(1, false);
        x.counsel(NONE, 0);
        feedText(x, "call 0;");
        due("back", x.back(), 2);
        for (int i = 0; i < 9; i++) {
            due("is " + i, x.is(i), were[i]);
        }
        int[] counts = {1, 1, 0, 4, 1, 1, 1, 7};
        for (int i = 0; i < 8; i++) {
            due("about " + i, x.about(i), counts[i]);
        }
        due("the book", x.book(NONE, 0), 0);
        due("what was learned", x.codes(NONE), 2);
        due("counsel", x.hired(4, false), 4);
        due("the case", x.ofCase(0, 4), 1);
        due("the text that rules", x.foretold(1, 1), 4);
        due("the tape isn't of it", x.text(), 1);
        due("it stays", x.back(), 2);
        due("texts", x.about(1), 1);
        due("steps of it", x.undo(), 3);
        due("hour", x.is(3), 1);
    }

    private static void about() {
        promise = "43 about";
        VaneCourt x = new VaneCourt();
        x.newCase(0, 5, 2, 1);
        x.newCase(0, 5, 2, 1);
        read(x, "");
        read(x, "");
        read(x, "");
        x.by(2);
        x.hour(4);
        for (int i = 0; i < 5; i++) {
            x.record(0, 0, true);
        }
        for (int i = 0; i < 6; i++) {
            x.learn(0, true);
        }
        for (int i = 0; i < 7; i++) {
            x.counsel(1, 1);
        }
        x.feed(0, 0, 0, 0, 0);
        int[] counts = {2, 3, 2, 4, 5, 6, 7, 20};
        for (int i = 0; i < 8; i++) {
            due("about " + i, x.about(i), counts[i]);
        }
        due("others", x.about(8), -2);
        due("others", x.about(-1), -2);
        due("others", x.about(HIGH), -2);
    }

    // ---------------------------------------------------------------- part II

    private static void grammar() {
        promise = "II worth";
        worth("2+3*4", 14);
        worth("10-4-3", 3);
        worth("-7/2", -3);
        worth("7/-2", -3);
        worth("9/0+1", 1);
        worth("9999*9999-(9999*100+99)", 1);
        worth("-9999*9999+(9999*100+99)", -1);
        worth("(9999*9999+1)/9999", 100);
        worth("9999*9999*9999/9999", 100);
        worth("-(1-2)*-3", -3);
        worth("kind*10+gravity", 47);
        worth("hour+quarter+force", 3);
        worth("hours+laws*10", 11);
        worth("400", 400);
        worth("8/3*3", 6);
        worth("9999", 499);
        worth("-9999", -500);
        promise = "II so";
        so("fact 0 and fact 3", true);
        so("fact 0 and fact 1", false);
        so("fact 1 or fact 3 and fact 2 or fact 0", true);
        so("not fact 1 and not not fact 3", true);
        so("fact 0 unless fact 3", false);
        so("fact 0 unless fact 1 or fact 2", true);
        so("fact 1 unless fact 2", false);
        so("most(fact 0)", true);
        so("not most(1=1)", false);
        so("most(most(1=1),1=0)", false);
        so("most(fact 0, fact 1)", false);
        so("most(fact 0, fact 1, fact 3)", true);
        so("most(1=1,1=1,1=1,1=0,1=0,1=0)", false);
        so("most(1=1,1=1,1=1,1=1,1=0,1=0)", true);
        so("most(most(1=0),not most(1=0) or 1=0)", false);
        so("kind<=4 and kind>=4 and kind=4 and kind#5 and kind<5 and kind>3", true);
        so("kind<4 or kind>4 or kind#4 or kind=5 or kind<=3 or kind>=5", false);
        so("quarter=0 and gravity=7 and hours=1", true);
        grammarFaults();
    }

    private static void grammarFaults() {
        promise = "II faults";
        faultOf("", 0, NONE);
        faultOf("delay", 1, 5);
        faultOf("delay  \n", 1, 8);
        faultOf("Delay;", 1, 0);
        faultOf("delay;\t", 1, 6);
        faultOf("de lay;", 1, 0);
        for (String letter : new String[] {"a", "z", "A", "Z"}) {
            faultOf("withdraw" + letter + ";", 1, 0);
        }
        for (String none : new String[] {"`", "{", "@", "[", "_", "!", "\t", "\r", "\0", "\u00ff", "9", "0", "/"}) {
            faultOf("withdraw" + none + ";", 1, 8);
        }
        faultOf("code 0: 1<=", 1, 11);
        faultOf("code 0: 1>=", 1, 11);
        faultOf("code 0: 1=<1;", 1, 10);
        faultOf("code0:1<=1unless 2>=3;hour60;", 0, NONE);
        faultOf("code 0: 1 < = 2;", 1, 12);
        faultOf("code 0: 1 <= 2;", 0, NONE);
        faultOf("code 0: 1 = 1 = 1;", 1, 14);
        faultOf("code 0: (1 = 1);", 1, 11);
        faultOf("code 0 1=1;", 1, 7);
        faultOf("code 4 1=1;", 2, 5);
        faultOf("code 0:1=1;code 1:1=1;code 0:1=1;", 4, 27);
        faultOf("fogs 1=1;fogs 1=1;", 4, 9);
        faultOf("blows 1;blows 1;", 4, 8);
        faultOf("sentence 1;sentence 1;", 4, 11);
        faultOf("veers 00009999;", 0, NONE);
        faultOf("veers 10000;", 2, 6);
        faultOf("veers 1 10000;", 1, 8);
        faultOf("veers 99999999999999999999;", 2, 6);
        faultOf("veers ((((((((1))))))));", 0, NONE);
        faultOf("veers (((((((((1)))))))));", 3, 14);
        faultOf("veers --------1----------1;", 3, 24);
        faultOf("veers --------1---------1;", 0, NONE);
        faultOf("code 0:not not not not not not not not not 1=1;", 3, 39);
        faultOf("code 0:not not not not most(not not not 1=-1);", 3, 42);
        faultOf("code 0:not not not not most(not not not 1=1,not not not fact 2);", 0, NONE);
        faultOf("veers fact 1;", 1, 6);
        faultOf("fogs fact 1;", 5, 5);
        faultOf("fogs 1=fact 1;", 1, 7);
        faultOf("fogs most(1=1,fact 1);", 5, 14);
        faultOf("blows hours;", 5, 6);
        faultOf("blows gravity;", 5, 6);
        faultOf("sentence laws+kind+gravity+hours+hour+quarter+force;", 0, NONE);
        faultOf("code 0: kind+gravity+hours+hour+quarter+force=1;", 0, NONE);
        faultOf("veers draw+hour+quarter+force;", 0, NONE);
        faultOf("sentence draw;", 5, 9);
        faultOf("sentence needs;", 1, 9);
        faultOf("code 0:fact 8;", 2, 12);
        faultOf("code 0:fact 1+1=2;", 1, 13);
        faultOf("code 0:most(1=1;", 1, 15);
        faultOf("code 0:most 1=1;", 1, 12);
        faultOf("code 0:most();", 1, 12);
        faultOf("code 0:most(1=1 unless 1=1);", 1, 16);
        faultOf("code 0:most(1=1,1=1,1=1,1=1,1=1,1=1,1=1);", 7, 35);
        faultOf("code 0:most(1=1,1=1,1=1,1=1,1=1,1=1);", 0, NONE);
        faultOf("code 0:most(most(1=1,1=1),1=1,1=1,1=1,1=1,1=1,1=1);", 7, 45);
        faultOf("case 5 gravity 9 needs 9;case 6 gravity 1 needs 1;", 2, 30);
        faultOf("case 1 gravity 10 needs 9;", 2, 15);
        faultOf("case 1 needs 1 gravity 1;", 1, 7);
        faultOf("call 7;appeal 7;call 8;", 2, 21);
        faultOf("appeal 8;", 2, 7);
        faultOf("gust 3 force 9;gust 3 force 10;", 2, 28);
        faultOf("hour 60;hour 0;", 2, 13);
        faultOf("hour 61;", 2, 5);
        String many = "delay;".repeat(24);
        faultOf(many, 0, NONE);
        faultOf(many + "delay;", 6, 144);
        faultOf(many + "fact", 1, 144);
        faultOf("veers 1;" + "delay;".repeat(23) + "veers 1;", 4, 146);
        faultOf("veers 1;" + "delay;".repeat(23) + "blows 1;", 6, 146);
    }
}
