import java.nio.charset.StandardCharsets;
import java.util.Arrays;

/** What the tests of bounds share: answers that are due, texts on the tape, and all that a court tells of itself. */
abstract class Trial {
    static final int NONE = -1;
    static final int LOW = Integer.MIN_VALUE;
    static final int HIGH = Integer.MAX_VALUE;
    /** A wind that never changes by itself. */
    static final String STILL = "veers 0;blows force;fogs 1=0;";

    private static int wrong = 0;
    private static String sentence = "";

    /** A call, so that one test can make it on many courts; a boolean counts 1 or 0. */
    interface Call {
        long on(VaneCourt court);
    }

    /** The sentence of the document by which the next answers are due. */
    static void says(String words) {
        sentence = words;
    }

    static void due(String what, long got, long want) {
        if (got != want) {
            wrong++;
            System.out.println("\"" + sentence + "\": " + what + " answered " + got + ", due is " + want);
        }
    }

    static void due(String what, boolean got, boolean want) {
        due(what, got ? 1 : 0, want ? 1 : 0);
    }

    static void alike(String what, String got, String want) {
        if (!got.equals(want)) {
            wrong++;
            System.out.println("\"" + sentence + "\": " + what + " is\n  " + got + ", due is\n  " + want);
        }
    }

    static void finish() {
        System.out.println(wrong == 0 ? "all bounds hold" : wrong + " answers are not as due");
        if (wrong != 0) {
            System.exit(1);
        }
    }

    static int feedBytes(VaneCourt x, String text) {
        byte[] bytes = Arrays.copyOf(text.getBytes(StandardCharsets.ISO_8859_1), 320);
        x.end(0);
        for (int at = 0; at < text.length(); at += 20) {
            int[] w = new int[5];
            for (int i = 0; i < 20; i++) {
                w[i / 4] = w[i / 4] << 8 | bytes[at + i] & 255;
            }
            x.feed(w[0], w[1], w[2], w[3], w[4]);
        }
        return x.end(text.length());
    }

    static int read(VaneCourt x, String text) {
        feedBytes(x, text);
        return x.text();
    }

    static VaneCourt ruledBy(String text) {
        VaneCourt x = new VaneCourt();
        due("text " + text, read(x, text), 0);
        due("by", x.by(0), true);
        return x;
    }

    /** A text of few bytes is fine: read by a new court. */
    static void fine(String text) {
        fault(text, 0, NONE);
    }

    static void fault(String text, int fault, int place) {
        VaneCourt x = new VaneCourt();
        due("text " + text, read(x, text), fault == 0 ? 0 : NONE);
        due("fault of " + text, x.fault(0), fault);
        due("place in " + text, x.fault(1), place);
        due("texts behind " + text, x.about(1), fault == 0 ? 1 : 0);
    }

    /** The first fault is at the sign that an exclamation mark stands ahead of (which isn't in the text). */
    static void faultAt(int fault, String marked) {
        int place = marked.indexOf('!');
        fault(marked.substring(0, place) + marked.substring(place + 1), fault, place);
    }

    /** In few calls: an object answers for 512 alone. */
    static void passTo(VaneCourt x, int hour) {
        for (int now = x.is(3); now < hour; now += 60) {
            x.hour(Math.min(60, hour - now));
        }
        due("passed to", x.is(3), hour);
    }

    static void addCases(VaneCourt x, int many, int gravity, int needs, int facts) {
        for (int i = 0; i < many; i++) {
            x.newCase(0, gravity, needs, facts);
        }
    }

    /** What a step takes back: the wind, the hour, X, how cases are, who is in court, the book. */
    static String sitting(VaneCourt x) {
        StringBuilder all = new StringBuilder("is");
        for (int what = 0; what <= 8; what++) {
            all.append(' ').append(x.is(what));
        }
        for (int c = 0; c < x.about(0); c++) {
            all.append(", case ").append(c).append(':');
            for (int what = 0; what <= 6; what++) {
                all.append(' ').append(x.ofCase(c, what));
            }
        }
        int entries = x.book(NONE, 0);
        all.append(", book of ").append(entries).append(':');
        for (int i = 0; i < entries; i++) {
            for (int what = 0; what <= 3; what++) {
                all.append(' ').append(x.book(i, what));
            }
        }
        return all.toString();
    }

    /** All that an image keeps, as far as few calls can tell it. */
    static String kept(VaneCourt x) {
        StringBuilder all = new StringBuilder(sitting(x));
        all.append(", about");
        for (int what = 0; what <= 6; what++) {
            all.append(' ').append(x.about(what));
        }
        all.append(", records ").append(x.turned()).append(' ').append(x.fewestWrong()).append(' ').append(x.whose());
        all.append(", codes ").append(x.codes(NONE)).append(' ').append(x.codes(0)).append(' ').append(x.codes(1));
        all.append(", hired ").append(x.hired(9999, false)).append(' ').append(x.hired(9999, true));
        all.append(", foretold ").append(x.foretold(60, 0)).append(' ').append(x.foretold(60, 1));
        return all.toString();
    }

    /** The same, with the tape and the latest fault. */
    static String everything(VaneCourt x) {
        return kept(x) + ", tape " + x.about(7) + ", fault " + x.fault(0) + " " + x.fault(1);
    }
}
