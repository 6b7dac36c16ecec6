import java.lang.reflect.Method;
import java.lang.reflect.Modifier;
import java.util.ArrayList;
import java.util.Comparator;
import java.util.HashMap;
import java.util.List;
import java.util.Map;
import java.util.Random;
import java.util.Set;

/**
 * Every call with any arguments, in any state: it never throws, its answer is one that the document knows, the same
 * calls give the same answers on another object, and a court that is never asked goes on as one that is.
 */
public final class AnyCallTest {
    private static final int RUNS = 1500;
    private static final int CALLS = 512;

    /** Each call and the least and the greatest that it may answer; a boolean counts 1 or 0. */
    private static final String ANSWERS = """
            newCase -1 7
            feed -1 300
            end -1 300
            text -1 3
            fault -1 300
            by 0 1
            call 0 1
            delay -1 3
            appeal 0 1
            gust 0 1
            withdraw -1 7
            hour -1 60
            played -2 23
            decades -1 9999
            undo -1 29
            ofCase -1 999
            is -2 30388
            book -2 9998
            foretold -1 9
            ends -1 999
            best -1 32
            harshest -1 999
            odds -1 100
            clash -1 15
            leastFacts -1 255
            game -1 100999
            session -2 4995
            record -2 8
            turned 0 15
            fewestWrong 0 8
            whose 0 15
            learn -2 8
            codes -1 256
            sure -1 1
            toBring -1 7
            counsel -2 8
            hired -1 792
            calm -1 60
            standing -1 60
            image 0 9999
            back 0 9999
            about -2 300
            """;

    private static final Set<String> ASKS = Set.of("fault", "ofCase", "is", "book", "foretold", "ends", "best",
            "harshest", "odds", "clash", "leastFacts", "game", "session", "turned", "fewestWrong", "whose", "codes",
            "sure", "toBring", "hired", "calm", "standing", "about");

    private static final String[] WORDS = {"code 0:fact 0;", "code 1:most(fact 1,kind<3,force>2);",
        "code 2:hours>1 unless gravity<3;", "code 3:not quarter=hour;", "veers draw-2;", "blows 9/(draw-1);",
        "fogs most(1=1,draw<5,force=0);", "sentence laws*9999*9999-hours;", "case 1 gravity 9 needs 1;", "call 0;",
        "call 1;", "hour 60;", "hour 3;", "appeal 0;", "gust 1 force 2;", "delay;", "withdraw;", "(", "not ", "most(",
        "-", "10000", "!", "force"};

    private static final int[] STRANGE = {Integer.MIN_VALUE, Integer.MIN_VALUE + 1, Integer.MAX_VALUE, -2, -3, 20, 21,
        30, 31, 40, 41, 60, 61, 99, 100, 255, 256, 300, 301, 999, 1000, 9999, 10000};

    private static final Map<String, long[]> RANGES = new HashMap<>();
    private static final List<Method> FACE = new ArrayList<>();

    private static int wrong = 0;

    public static void main(String[] args) throws Exception {
        readFace();
        int runs = args.length > 0 ? Integer.parseInt(args[0]) : RUNS;
        for (int seed = 0; seed < runs && wrong == 0; seed++) {
            new Run(seed).play();
        }
        System.out.println(wrong == 0 ? "any call may come" : wrong + " answers can't be so");
        if (wrong != 0) {
            System.exit(1);
        }
    }

    private static void readFace() {
        for (String line : ANSWERS.trim().split("\\R")) {
            String[] parts = line.split(" ");
            RANGES.put(parts[0], new long[] {Long.parseLong(parts[1]), Long.parseLong(parts[2])});
        }
        for (Method m : VaneCourt.class.getDeclaredMethods()) {
            if (Modifier.isPublic(m.getModifiers())) {
                FACE.add(m);
                must(RANGES.containsKey(m.getName()), "no answers are told of " + m.getName());
            }
        }
        FACE.sort(Comparator.comparing(Method::getName));
        must(FACE.size() == RANGES.size(), "the face has " + FACE.size() + " calls");
    }

    private static void must(boolean so, String what) {
        if (!so) {
            wrong++;
            System.out.println(what);
        }
    }

    private static final class Run {
        private final int seed;
        private final Random random;
        private final VaneCourt court = new VaneCourt();
        private final VaneCourt twin = new VaneCourt();
        private final VaneCourt unasked = new VaneCourt();
        private final StringBuilder log = new StringBuilder();
        private int calls = 0;

        Run(int seed) {
            this.seed = seed;
            random = new Random(seed);
        }

        void play() throws Exception {
            if (seed % 5 == 0) {
                passToTheLastHours();
            }
            tellCases(seed % 9);
            while (calls < CALLS - 20 && wrong == 0) {
                if (random.nextInt(20) == 0) {
                    tellText();
                } else {
                    Method m = FACE.get(random.nextInt(FACE.size()));
                    make(m, arguments(m));
                }
            }
        }

        /** A text of 1440 hours comes to HOUR 9999 in few calls, and hours by hand to 9960; BACK stays there. */
        private void passToTheLastHours() throws Exception {
            tell("hour 60;".repeat(24));
            for (int i = 0; i < 6 + seed / 5 % 2; i++) {
                make("played", 0);
            }
            for (int i = 0; i < 22; i++) {
                make("hour", 60);
            }
        }

        /** THE IMAGE has them too, so that BACK leaves something to ask for. */
        private void tellCases(int many) throws Exception {
            for (int i = 0; i < many; i++) {
                make("newCase", random.nextInt(6), 1 + random.nextInt(9), 1 + random.nextInt(4), random.nextInt(256));
            }
            make("image");
        }

        private Object[] arguments(Method m) {
            Class<?>[] types = m.getParameterTypes();
            Object[] all = new Object[types.length];
            boolean strange = random.nextInt(6) == 0;
            for (int i = 0; i < all.length; i++) {
                all[i] = types[i] == boolean.class ? (Object) random.nextBoolean() : (Object) number(strange);
            }
            return all;
        }

        private int number(boolean strange) {
            if (strange && random.nextInt(3) > 0) {
                return random.nextBoolean() ? STRANGE[random.nextInt(STRANGE.length)] : random.nextInt();
            }
            return random.nextInt(12) == 0 ? -1 : random.nextInt(random.nextBoolean() ? 3 : 10);
        }

        private void tellText() throws Exception {
            StringBuilder text = new StringBuilder();
            int words = 1 + random.nextInt(8);
            int kinds = random.nextInt(4) == 0 ? WORDS.length : 17;
            for (int i = 0; i < words; i++) {
                text.append(WORDS[random.nextInt(kinds)]);
            }
            tell(text.toString());
        }

        private void tell(String words) throws Exception {
            int length = words.length();
            String text = words + " ".repeat(20);
            make("end", 0);
            for (int at = 0; at < length; at += 20) {
                Object[] five = new Object[5];
                for (int i = 0; i < 5; i++) {
                    five[i] = text.charAt(at + 4 * i) << 24 | text.charAt(at + 4 * i + 1) << 16
                            | text.charAt(at + 4 * i + 2) << 8 | text.charAt(at + 4 * i + 3);
                }
                make("feed", five);
            }
            make("end", length);
            make("text");
        }

        private void make(String name, Object... arguments) throws Exception {
            for (Method m : FACE) {
                if (m.getName().equals(name)) {
                    make(m, arguments);
                }
            }
        }

        private void make(Method m, Object[] arguments) throws Exception {
            calls++;
            log.append(m.getName()).append(java.util.Arrays.toString(arguments)).append(' ');
            long answer = answerOf(court, m, arguments);
            long[] range = RANGES.get(m.getName());
            due(answer >= range[0] && answer <= range[1], "answered " + answer + ", which the document doesn't know");
            due(answerOf(twin, m, arguments) == answer, "is answered otherwise by another object");
            if (!ASKS.contains(m.getName())) {
                due(answerOf(unasked, m, arguments) == answer, "is answered otherwise by a court that isn't asked");
            }
        }

        private long answerOf(VaneCourt x, Method m, Object[] arguments) throws Exception {
            try {
                Object answer = m.invoke(x, arguments);
                return answer instanceof Boolean so ? (so ? 1 : 0) : ((Number) answer).longValue();
            } catch (java.lang.reflect.InvocationTargetException e) {
                due(false, "threw " + e.getCause());
                return 0;
            }
        }

        private void due(boolean so, String what) {
            must(so, "seed " + seed + ", call " + calls + ": .. " + log.substring(Math.max(0, log.length() - 200)) + what);
        }
    }
}
