import java.util.ArrayDeque;
import java.util.ArrayList;
import java.util.Arrays;
import java.util.Collections;
import java.util.Deque;
import java.util.HashMap;
import java.util.List;
import java.util.Map;
import java.util.Random;

/**
 * Random runs of calls against a second, slow reading of the document: states are copied whole, every question about
 * what comes is answered by living through it, texts are judged by a pushdown of symbols and asked token by token.
 */
public final class OracleTest {
    private static final int RUNS = 700;
    private static final int CALLS = 512;

    private static int wrong = 0;

    public static void main(String[] args) {
        int runs = args.length > 0 ? Integer.parseInt(args[0]) : RUNS;
        long first = args.length > 1 ? Long.parseLong(args[1]) : 0;
        for (long seed = first; seed < first + runs && wrong == 0; seed++) {
            new Run(seed).play();
        }
        for (long seed = first; seed < first + 10L * runs && wrong == 0; seed++) {
            readTexts(seed);
        }
        System.out.println(wrong == 0 ? "all answers are as the oracle's" : wrong + " answers are not as the oracle's");
        if (wrong != 0) {
            System.exit(1);
        }
    }

    /** Many texts, most of them with a fault. */
    private static void readTexts(long seed) {
        Random random = new Random(seed * 31 + 7);
        VaneCourt court = new VaneCourt();
        for (int i = 0; i < 30; i++) {
            String text = Writer.mutated(random, Writer.text(random));
            Script due = Script.read(text);
            feed(court, text);
            int got = court.text();
            check("text " + text, got >= 0 ? 0 : 1, due.fault == 0 ? 0 : 1);
            check("fault 0 " + text, court.fault(0), due.fault);
            check("fault 1 " + text, court.fault(1), due.place);
            court.back();
        }
    }

    private static void feed(VaneCourt court, String text) {
        byte[] bytes = Arrays.copyOf(latin(text), 320);
        for (int at = 0; at < text.length(); at += 20) {
            int[] w = new int[5];
            for (int i = 0; i < 20; i++) {
                w[i / 4] = w[i / 4] << 8 | bytes[at + i] & 255;
            }
            court.feed(w[0], w[1], w[2], w[3], w[4]);
        }
        court.end(text.length());
    }

    private static byte[] latin(String text) {
        return text.getBytes(java.nio.charset.StandardCharsets.ISO_8859_1);
    }

    private static void check(String what, long got, long due) {
        if (got != due && wrong < 20) {
            wrong++;
            System.out.println(what + " answered " + got + ", the oracle says " + due);
        }
    }

    // ---------------------------------------------------------------- texts

    static final class Token {
        String word;
        int place;

        Token(String word, int place) {
            this.word = word;
            this.place = place;
        }

        boolean isNumber() {
            return !word.isEmpty() && Character.isDigit(word.charAt(0));
        }

        int value() {
            String digits = word.replaceFirst("^0+(?=.)", "");
            return digits.length() > 4 ? 10000 : Integer.parseInt(digits);
        }
    }

    static List<Token> tokens(String text) {
        List<Token> found = new ArrayList<>();
        java.util.regex.Matcher m =
                java.util.regex.Pattern.compile("[ \\n]+|[a-zA-Z]+|[0-9]+|<=|>=|(?s:.)").matcher(text);
        while (m.find()) {
            if (!m.group().trim().isEmpty() || !m.group().matches("[ \\n]+")) {
                found.add(new Token(m.group(), m.start()));
            }
        }
        found.add(new Token("", text.length()));
        return found;
    }

    /** A clause: its words, and for laws the part that is asked. */
    static final class Clause {
        String head;
        List<Integer> numbers = new ArrayList<>();
        List<String> body = new ArrayList<>();
    }

    /** A text as the oracle reads it. */
    static final class Script {
        int fault = 0;
        int place = -1;
        List<Clause> clauses = new ArrayList<>();

        Clause law(String head, int quarter) {
            for (Clause c : clauses) {
                if (c.head.equals(head) && (!head.equals("code") || c.numbers.get(0) == quarter)) {
                    return c;
                }
            }
            return null;
        }

        static final List<String> NAMES =
                List.of("hour", "quarter", "force", "draw", "kind", "gravity", "hours", "laws");

        static boolean knows(String law, String name) {
            switch (name) {
                case "hour": case "quarter": case "force":
                    return true;
                case "draw":
                    return List.of("veers", "blows", "fogs").contains(law);
                case "kind": case "gravity": case "hours":
                    return List.of("code", "sentence").contains(law);
                case "laws":
                    return law.equals("sentence");
                default:
                    return law.equals("code");
            }
        }

        static final Map<String, String> SHAPES = new HashMap<>();
        static {
            SHAPES.put("code", "Q : WHOLE");
            SHAPES.put("veers", "SUM");
            SHAPES.put("blows", "SUM");
            SHAPES.put("fogs", "WHOLE");
            SHAPES.put("sentence", "SUM");
            SHAPES.put("case", "N0-5 gravity N1-9 needs N1-9");
            SHAPES.put("call", "N0-7");
            SHAPES.put("delay", "");
            SHAPES.put("appeal", "N0-7");
            SHAPES.put("gust", "N0-3 force N0-9");
            SHAPES.put("withdraw", "");
            SHAPES.put("hour", "N1-60");
        }

        /** The stack of what must still come; "<" as a symbol closes what was opened. */
        private final Deque<String> must = new ArrayDeque<>();
        private final Deque<Integer> parts = new ArrayDeque<>();
        private int open = 0;

        static Script read(String text) {
            Script s = new Script();
            must: for (Token t : tokens(text)) {
                while (true) {
                    if (s.must.isEmpty()) {
                        if (t.word.isEmpty()) {
                            break must;
                        }
                        s.startClause(t);
                        break;
                    }
                    String symbol = s.must.pop();
                    if (s.expand(symbol, t)) {
                        continue;
                    }
                    if (s.fault == 0) {
                        s.eat(symbol, t);
                    }
                    break;
                }
                if (s.fault != 0) {
                    s.place = t.place;
                    break;
                }
            }
            return s;
        }

        private void want(String symbols) {
            String[] all = symbols.trim().isEmpty() ? new String[0] : symbols.trim().split(" ");
            for (int i = all.length - 1; i >= 0; i--) {
                must.push(all[i]);
            }
        }

        private void startClause(Token t) {
            if (!SHAPES.containsKey(t.word)) {
                fault = 1;
            } else if (!SHAPES.get(t.word).isEmpty() && !t.word.equals("code")
                    && List.of("veers", "blows", "fogs", "sentence").contains(t.word) && law(t.word, 0) != null) {
                fault = 4;
            } else if (clauses.size() == 24) {
                fault = 6;
            } else {
                Clause c = new Clause();
                c.head = t.word;
                clauses.add(c);
                want(SHAPES.get(t.word) + " ;");
            }
        }

        private Clause last() {
            return clauses.get(clauses.size() - 1);
        }

        /** Whether the symbol was one of the grammar's, and stands no more on the stack (nothing of the token is eaten). */
        private boolean expand(String symbol, Token t) {
            switch (symbol) {
                case "WHOLE":
                    want("EITHER UNLESS?");
                    return true;
                case "UNLESS?":
                    want(t.word.equals("unless") ? "unless EITHER" : "");
                    return true;
                case "EITHER":
                    want("BOTH OR*");
                    return true;
                case "OR*":
                    want(t.word.equals("or") ? "or BOTH OR*" : "");
                    return true;
                case "BOTH":
                    want("ASK AND*");
                    return true;
                case "AND*":
                    want(t.word.equals("and") ? "and ASK AND*" : "");
                    return true;
                case "ASK":
                    if (t.word.equals("not")) {
                        want("OPENnot ASK CLOSE");
                    } else if (t.word.equals("most")) {
                        want("OPENmost ( PARTS EITHER MORE* ) CLOSE");
                    } else if (t.word.equals("fact")) {
                        want("FACT N0-7");
                    } else {
                        want("SUM COMPARE SUM");
                    }
                    return true;
                case "PARTS":
                    parts.push(1);
                    return true;
                case "MORE*":
                    want(t.word.equals(",") ? "COMMA EITHER MORE*" : "PARTED");
                    return true;
                case "PARTED":
                    parts.pop();
                    return true;
                case "SUM":
                    want("PRODUCT ADD*");
                    return true;
                case "ADD*":
                    want(t.word.equals("+") || t.word.equals("-") ? t.word + " PRODUCT ADD*" : "");
                    return true;
                case "PRODUCT":
                    want("ONE TIMES*");
                    return true;
                case "TIMES*":
                    want(t.word.equals("*") || t.word.equals("/") ? t.word + " ONE TIMES*" : "");
                    return true;
                case "ONE":
                    if (t.word.equals("(")) {
                        want("OPEN( SUM ) CLOSE");
                    } else if (t.word.equals("-")) {
                        want("OPEN- ONE CLOSE");
                    } else if (NAMES.contains(t.word)) {
                        want("NAME");
                    } else {
                        want("N0-9999");
                    }
                    return true;
                case "CLOSE":
                    open--;
                    return true;
                default:
                    return false;
            }
        }

        private void eat(String symbol, Token t) {
            boolean law = List.of("code", "veers", "blows", "fogs", "sentence").contains(last().head);
            if (symbol.equals("Q") || symbol.matches("N[0-9]+-[0-9]+")) {
                String[] range = symbol.equals("Q") ? new String[] {"0", "3"} : symbol.substring(1).split("-");
                if (!t.isNumber()) {
                    fault = 1;
                } else if (t.value() < Integer.parseInt(range[0]) || t.value() > Integer.parseInt(range[1])) {
                    fault = 2;
                } else if (symbol.equals("Q") && told(t.value())) {
                    fault = 4;
                } else if (symbol.equals("Q") || !law) {
                    last().numbers.add(t.value());
                } else {
                    last().body.add(t.word);
                }
                return;
            }
            if (symbol.startsWith("OPEN")) {
                open++;
                if (open == 9) {
                    fault = 3;
                }
            } else if (symbol.equals("COMPARE")) {
                if (!List.of("<", "<=", ">", ">=", "=", "#").contains(t.word)) {
                    fault = 1;
                }
            } else if (symbol.equals("NAME") || symbol.equals("FACT")) {
                if (!knows(last().head, t.word)) {
                    fault = 5;
                }
            } else if (symbol.equals("COMMA")) {
                parts.push(parts.pop() + 1);
                if (parts.peek() == 7) {
                    fault = 7;
                }
            } else if (!symbol.equals(t.word)) {
                fault = 1;
            }
            if (fault == 0 && law && !t.word.equals(";") && !t.word.equals(":")) {
                last().body.add(t.word);
            }
        }

        private boolean told(int quarter) {
            for (int i = 0; i < clauses.size() - 1; i++) {
                if (clauses.get(i).head.equals("code") && clauses.get(i).numbers.get(0) == quarter) {
                    return true;
                }
            }
            return false;
        }
    }

    /** Asks a law's words anew each time. */
    static final class Asker {
        private final List<String> words;
        private final Map<String, Integer> names;
        private int at = 0;

        Asker(Clause law, Map<String, Integer> names) {
            words = law.body;
            this.names = names;
        }

        private String peek() {
            return at < words.size() ? words.get(at) : "";
        }

        private boolean have(String word) {
            if (peek().equals(word)) {
                at++;
                return true;
            }
            return false;
        }

        boolean whole() {
            boolean a = either();
            if (have("unless")) {
                boolean b = either();
                return a && !b;
            }
            return a;
        }

        private boolean either() {
            boolean so = both();
            while (have("or")) {
                so = both() | so;
            }
            return so;
        }

        private boolean both() {
            boolean so = ask();
            while (have("and")) {
                so = ask() & so;
            }
            return so;
        }

        private boolean ask() {
            if (have("not")) {
                return !ask();
            }
            if (have("fact")) {
                int fact = Integer.parseInt(words.get(at++));
                return ((names.get("FACTS") >> fact) & 1) != 0;
            }
            if (have("most")) {
                have("(");
                List<Boolean> all = new ArrayList<>();
                do {
                    all.add(either());
                } while (have(","));
                have(")");
                return Collections.frequency(all, true) > all.size() / 2.0;
            }
            long a = sum();
            String sign = words.get(at++);
            long b = sum();
            switch (sign) {
                case "<":
                    return a < b;
                case "<=":
                    return a <= b;
                case ">":
                    return a > b;
                case ">=":
                    return a >= b;
                case "=":
                    return a == b;
                default:
                    return a != b;
            }
        }

        private static long bounded(long value) {
            return value > 1000000 ? 1000000 : value < -1000000 ? -1000000 : value;
        }

        long sum() {
            long value = product();
            while (true) {
                if (have("+")) {
                    value = bounded(value + product());
                } else if (have("-")) {
                    value = bounded(value - product());
                } else {
                    return value;
                }
            }
        }

        private long product() {
            long value = one();
            while (true) {
                if (have("*")) {
                    value = bounded(value * one());
                } else if (have("/")) {
                    long by = one();
                    value = by == 0 ? 0 : value / by;
                } else {
                    return value;
                }
            }
        }

        private long one() {
            if (have("(")) {
                long value = sum();
                have(")");
                return value;
            }
            if (have("-")) {
                return -one();
            }
            String word = words.get(at++);
            return names.containsKey(word) ? names.get(word) : Integer.parseInt(word);
        }
    }

    /** Writes random texts. */
    static final class Writer {
        static String pick(Random r, String... all) {
            return all[r.nextInt(all.length)];
        }

        static String number(Random r) {
            return pick(r, "0", "1", "2", "3", "5", "7", "9", "10", "13", "99", "600", "9999", "007", "4", "6", "8");
        }

        static String name(Random r, String law) {
            for (int i = 0; i < 50; i++) {
                String n = Script.NAMES.get(r.nextInt(8));
                if (Script.knows(law, n) || r.nextInt(400) == 0) {
                    return n;
                }
            }
            return "hour";
        }

        static String one(Random r, String law, int depth) {
            int p = r.nextInt(12);
            if (p < 4) {
                return number(r);
            }
            if (p < 9 || depth <= 0) {
                return name(r, law);
            }
            return p < 11 ? "(" + sum(r, law, depth - 1) + ")" : "-" + one(r, law, depth - 1);
        }

        static String sum(Random r, String law, int depth) {
            StringBuilder b = new StringBuilder(one(r, law, depth));
            while (r.nextInt(5) < 2) {
                b.append(pick(r, "+", "-", "*", "/", " / ", " - ")).append(one(r, law, depth));
            }
            return b.toString();
        }

        static String ask(Random r, String law, int depth) {
            int p = r.nextInt(10);
            if (depth > 0 && p == 0) {
                return "not " + ask(r, law, depth - 1);
            }
            if (p < 4 && (law.equals("code") || r.nextInt(200) == 0)) {
                return "fact " + r.nextInt(8);
            }
            if (depth > 0 && p == 4) {
                StringBuilder b = new StringBuilder("most(");
                int n = 1 + r.nextInt(4);
                for (int i = 0; i < n; i++) {
                    b.append(i > 0 ? "," : "").append(either(r, law, depth - 2));
                }
                return b.append(")").toString();
            }
            return sum(r, law, depth - 1) + pick(r, "<", "<=", ">", ">=", "=", "#") + sum(r, law, depth - 1);
        }

        static String either(Random r, String law, int depth) {
            StringBuilder b = new StringBuilder(ask(r, law, depth));
            while (r.nextInt(4) == 0) {
                b.append(pick(r, " and ", " or ")).append(ask(r, law, depth));
            }
            return b.toString();
        }

        static String whole(Random r, String law) {
            String first = either(r, law, 2);
            return r.nextInt(4) == 0 ? first + " unless " + either(r, law, 2) : first;
        }

        static String clause(Random r) {
            switch (r.nextInt(15)) {
                case 0: case 1: case 2:
                    return "code " + r.nextInt(4) + ": " + whole(r, "code") + ";";
                case 3:
                    return "veers " + sum(r, "veers", 2) + ";";
                case 4:
                    return "blows " + sum(r, "blows", 2) + ";";
                case 5:
                    return "fogs " + whole(r, "fogs") + ";";
                case 6:
                    return "sentence " + sum(r, "sentence", 2) + ";";
                case 7: case 8:
                    return "case " + r.nextInt(6) + " gravity " + (1 + r.nextInt(9)) + " needs " + (1 + r.nextInt(9)) + ";";
                case 9:
                    return "call " + r.nextInt(8) + ";";
                case 10:
                    return "delay;";
                case 11:
                    return "appeal " + r.nextInt(8) + ";";
                case 12:
                    return "gust " + r.nextInt(4) + " force " + r.nextInt(10) + ";";
                case 13:
                    return "withdraw;";
                default:
                    return "hour " + (1 + r.nextInt(r.nextBoolean() ? 9 : 60)) + ";";
            }
        }

        static String text(Random r) {
            StringBuilder b = new StringBuilder();
            int n = r.nextInt(20) == 0 ? 40 : 1 + r.nextInt(9);
            boolean laws = r.nextInt(3) > 0;
            for (int i = 0; i < n; i++) {
                String clause = clause(r);
                boolean law = clause.matches("(?s)(code|veers|blows|fogs|sentence).*");
                String head = clause.split("[: ]")[0] + (clause.startsWith("code") ? clause.substring(4, 6) : "");
                boolean again = law && b.indexOf(head) >= 0;
                if (law == laws && !(again && r.nextInt(20) > 0) && b.length() + clause.length() < 298) {
                    b.append(clause).append(pick(r, "", "", " ", "\n"));
                }
            }
            return b.toString();
        }

        static final String[] BITS = {"(", ")", "-", "not ", "most(", ",", ";", ":", "<", "<=", "=", "fact 1", "unless ",
            " or ", " and ", "code ", "veers ", "hour ", "laws", "draw", "kind", "9", "10000", "0", " ", "\n", "!", "\t",
            "Code", "é", "((((((((", "--------", "not not not ", "+", "*", "force", "needs", "gravity", "8", "61", "1=1",
            "delay;delay;delay;delay;delay;delay;delay;delay;delay;delay;delay;delay;", "most(1=1,1=1,1=1,1=1,1=1,1=1",
            ",1=1", "sentence 1;", "fogs 1=1;", "code 0:1=1;"};

        static String mutated(Random r, String text) {
            StringBuilder b = new StringBuilder(text);
            int n = r.nextInt(3);
            for (int i = 0; i < n; i++) {
                int at = r.nextInt(b.length() + 1);
                if (r.nextInt(3) == 0 && at < b.length()) {
                    b.deleteCharAt(at);
                } else {
                    b.insert(at, BITS[r.nextInt(BITS.length)]);
                }
            }
            if (b.length() > 300) {
                b.setLength(300);
            }
            return b.toString();
        }
    }

    // ---------------------------------------------------------------- the court

    /** What steps take back. */
    static final class State {
        int quarter = 0, force = 3, hour = 0, x = 107, inCourt = -1, heard = 0, laws = 0, delays = 0;
        boolean fog = false;
        int[] how = new int[8], sentence = new int[8];
        boolean[] appealed = new boolean[8];
        List<int[]> book = new ArrayList<>();

        State copy() {
            State s = new State();
            s.quarter = quarter;
            s.force = force;
            s.hour = hour;
            s.x = x;
            s.inCourt = inCourt;
            s.heard = heard;
            s.laws = laws;
            s.delays = delays;
            s.fog = fog;
            s.how = how.clone();
            s.sentence = sentence.clone();
            s.appealed = appealed.clone();
            s.book = new ArrayList<>(book);
            return s;
        }
    }

    /** The whole of an object. */
    static final class Model {
        State now = new State();
        List<State> steps = new ArrayList<>();
        List<int[]> cases = new ArrayList<>(), records = new ArrayList<>(), learned = new ArrayList<>(),
                counsel = new ArrayList<>();
        List<Script> texts = new ArrayList<>();
        int ruling = -1;
        Model image;
        String tape = "";
        int fault = -1, place = -1;

        Model copy() {
            Model m = new Model();
            m.now = now.copy();
            for (State s : steps) {
                m.steps.add(s.copy());
            }
            m.cases = new ArrayList<>(cases);
            m.records = new ArrayList<>(records);
            m.learned = new ArrayList<>(learned);
            m.counsel = new ArrayList<>(counsel);
            m.texts = new ArrayList<>(texts);
            m.ruling = ruling;
            return m;
        }

        void step() {
            steps.add(now.copy());
            if (steps.size() > 30) {
                steps.remove(0);
            }
        }

        Clause law(String head, int quarter) {
            return ruling < 0 ? null : texts.get(ruling).law(head, quarter);
        }

        Map<String, Integer> names(int quarter, int force, int hour) {
            Map<String, Integer> n = new HashMap<>();
            n.put("quarter", quarter);
            n.put("force", force);
            n.put("hour", hour);
            return n;
        }

        boolean guilty(Script by, int c, int facts, int code, int heard) {
            Clause law = by == null ? null : by.law("code", code);
            int[] told = cases.get(c);
            if (law == null) {
                return told[1] > code && facts % 2 == 1;
            }
            Map<String, Integer> n = names(code, now.force, now.hour);
            n.put("kind", told[0]);
            n.put("gravity", told[1]);
            n.put("hours", heard);
            n.put("FACTS", facts);
            return new Asker(law, n).whole();
        }

        Script rules() {
            return ruling < 0 ? null : texts.get(ruling);
        }

        int passed(int draw) {
            int ended = 0;
            State s = now;
            if (s.inCourt >= 0) {
                s.heard++;
                s.laws |= 1 << s.quarter;
                if (s.heard == cases.get(s.inCourt)[2] + s.delays) {
                    ended = 1;
                    finish();
                }
            }
            s.hour++;
            Map<String, Integer> n = names(s.quarter, s.force, s.hour);
            n.put("draw", draw);
            Clause veers = law("veers", 0), blows = law("blows", 0), fogs = law("fogs", 0);
            int turn = draw == 0 ? 1 : draw == 1 ? -1 : 0;
            if (veers != null) {
                turn = (int) Math.min(3, Math.max(-3, new Asker(veers, n).sum()));
            }
            s.quarter = (s.quarter + turn + 4) % 4;
            n.put("quarter", s.quarter);
            s.force = blows == null ? draw : (int) Math.min(9, Math.max(0, new Asker(blows, n).sum()));
            n.put("force", s.force);
            s.fog = fogs == null ? s.force < 2 && s.hour % 10 < 3 : new Asker(fogs, n).whole();
            return ended;
        }

        void finish() {
            State s = now;
            int c = s.inCourt;
            boolean guilty = false;
            if (s.force != 0 && !s.fog) {
                for (int q = 0; q < 4; q++) {
                    if ((s.laws & 1 << q) != 0) {
                        guilty |= guilty(rules(), c, cases.get(c)[3], q, s.heard);
                    }
                }
            }
            int sentence = 0;
            if (guilty) {
                sentence = cases.get(c)[1] * s.heard;
                Clause law = law("sentence", 0);
                if (law != null) {
                    Map<String, Integer> n = names(s.quarter, s.force, s.hour);
                    n.put("kind", cases.get(c)[0]);
                    n.put("gravity", cases.get(c)[1]);
                    n.put("hours", s.heard);
                    n.put("laws", Integer.bitCount(s.laws));
                    sentence = (int) Math.min(999, Math.max(0, new Asker(law, n).sum()));
                }
            }
            s.how[c] = guilty ? 3 : 2;
            s.sentence[c] = sentence;
            s.inCourt = -1;
            s.heard = 0;
            s.laws = 0;
            s.delays = 0;
            s.book.add(new int[] {s.hour, c, guilty ? 1 : 0, sentence});
            if (s.book.size() > 30) {
                s.book.remove(0);
            }
        }

        int draw() {
            int x = now.x;
            now.x = (int) ((x * 331L + 223) % 30389);
            return x;
        }

        /** As an hour by hand draws ahead of what it does with the draw, and nothing between asks for X. */
        int hourPasses() {
            return passed(draw() % 10);
        }

        boolean waits(int c) {
            return c >= 0 && c < cases.size() && now.how[c] == 0;
        }

        boolean bring(int c) {
            if (!waits(c) || now.inCourt >= 0) {
                return false;
            }
            now.inCourt = c;
            now.how[c] = 1;
            now.heard = 0;
            now.laws = 0;
            now.delays = 0;
            return true;
        }

        boolean putOff() {
            if (now.inCourt < 0 || now.delays == 3) {
                return false;
            }
            now.delays++;
            return true;
        }

        boolean reopen(int c) {
            if (c < 0 || c >= cases.size() || now.how[c] != 3 || now.appealed[c]) {
                return false;
            }
            now.appealed[c] = true;
            now.how[c] = 0;
            now.sentence[c] = 0;
            return true;
        }

        void letGo() {
            if (now.inCourt >= 0) {
                now.how[now.inCourt] = 0;
                now.inCourt = -1;
                now.heard = 0;
                now.laws = 0;
                now.delays = 0;
            }
        }

        /** Lives through an end: hours, verdict, sentence; null without. */
        int[] end(int c, int k, int d) {
            Model m = new Model();
            m.now = now.copy();
            m.cases = cases;
            m.texts = texts;
            m.ruling = ruling;
            m.letGo();
            for (int i = 0; i < k; i++) {
                if (m.now.hour == 9999) {
                    return null;
                }
                m.hourPasses();
            }
            m.bring(c);
            for (int i = 0; i < d; i++) {
                m.putOff();
            }
            for (int i = 0; m.now.inCourt >= 0; i++) {
                if (m.now.hour == 9999) {
                    return null;
                }
                m.hourPasses();
            }
            return new int[] {m.now.hour - now.hour, m.now.how[c] - 2, m.now.sentence[c]};
        }

        int duel(int c, boolean accuser, int turn, int delays, int[] first) {
            if (turn == 6) {
                int[] e = end(c, 0, delays);
                return e == null || e[1] == 0 ? 0 : 100000 + e[2];
            }
            int stay = duel(c, !accuser, turn + 1, delays, new int[1]);
            if (delays == 3) {
                return stay;
            }
            int go = duel(c, !accuser, turn + 1, delays + 1, new int[1]);
            boolean goes = accuser ? go > stay : go < stay;
            first[0] = goes ? 1 : 0;
            return goes ? go : stay;
        }

        /** All orders, from the lowest on; the sum and the order. */
        List<Integer> session(List<Integer> left, List<Integer> placed) {
            if (left.isEmpty()) {
                Model m = new Model();
                m.now = now.copy();
                m.cases = cases;
                m.texts = texts;
                m.ruling = ruling;
                m.letGo();
                int sum = 0;
                for (int c : placed) {
                    m.bring(c);
                    while (m.now.inCourt >= 0 && m.now.hour < 9999) {
                        m.hourPasses();
                    }
                    sum += m.now.inCourt >= 0 ? 0 : m.now.sentence[c];
                    if (m.now.inCourt >= 0) {
                        break;
                    }
                }
                List<Integer> found = new ArrayList<>();
                found.add(sum);
                found.addAll(placed);
                return found;
            }
            List<Integer> best = null;
            for (Integer c : left) {
                List<Integer> l = new ArrayList<>(left);
                l.remove(c);
                List<Integer> p = new ArrayList<>(placed);
                p.add(c);
                List<Integer> found = session(l, p);
                if (best == null || found.get(0) > best.get(0)) {
                    best = found;
                }
            }
            return best;
        }

        long[] odds(int togo) {
            if (togo == 0) {
                int[] e = now.book.get(now.book.size() - 1);
                return new long[] {e[2], 1};
            }
            long[] sum = {0, 0};
            for (int d = 0; d < 10; d++) {
                Model m = new Model();
                m.now = now.copy();
                m.cases = cases;
                m.texts = texts;
                m.ruling = ruling;
                m.passed(d);
                long[] o = m.odds(togo - 1);
                sum[0] += o[0];
                sum[1] += o[1];
            }
            return sum;
        }
    }

    // ---------------------------------------------------------------- runs

    static final class Run {
        final Random r;
        final long seed;
        final VaneCourt real = new VaneCourt();
        Model m = new Model();
        int calls = 0;
        final List<String> log = new ArrayList<>();

        Run(long seed) {
            this.seed = seed;
            r = new Random(seed);
            m.image = new Model();
        }

        void due(String call, long got, long want) {
            calls++;
            log.add(call + " = " + got);
            if (got != want) {
                int from = Math.max(0, log.size() - 12);
                System.out.println("seed " + seed + ": " + log.subList(from, log.size()));
            }
            check("seed " + seed + " call " + calls + " " + call, got, want);
        }

        int any(int low, int high) {
            int p = r.nextInt(25);
            return p == 0 ? low - 1 : p == 1 ? high + 1 : low + r.nextInt(high - low + 1);
        }

        int strange() {
            int[] all = {Integer.MIN_VALUE, Integer.MAX_VALUE, -2, 1000, 256, -1, 100000};
            return all[r.nextInt(all.length)];
        }

        int some(int low, int high) {
            return r.nextInt(60) == 0 ? strange() : any(low, high);
        }

        void play() {
            int style = r.nextInt(6);
            if (r.nextInt(3) > 0) {
                for (int i = 0; i < 3; i++) {
                    newCase();
                }
            }
            if (style == 0) {
                nearTheEnd();
            }
            // One turn makes fewer than 80 calls.
            while (calls < CALLS - 80 && wrong == 0) {
                if (r.nextInt(3) == 0) {
                    ask();
                } else {
                    act();
                }
            }
        }

        /** A text of hours alone gets to the last hours with few calls. */
        void nearTheEnd() {
            StringBuilder b = new StringBuilder();
            for (int i = 0; i < 24; i++) {
                b.append("hour 60;");
            }
            readText(b.toString());
            int stop = 6 + (r.nextInt(3) == 0 ? 1 : 0);
            for (int i = 0; i < stop; i++) {
                play(0);
            }
            while (m.now.hour < 9900 && wrong == 0) {
                hour(30 + r.nextInt(31));
            }
        }

        void newCase() {
            int a = some(0, 5), b = some(1, 9), c = r.nextInt(2) == 0 ? 1 + r.nextInt(3) : some(1, 9), d = some(0, 255);
            boolean fine = a >= 0 && a <= 5 && b >= 1 && b <= 9 && c >= 1 && c <= 9 && d >= 0 && d <= 255
                    && m.cases.size() < 8;
            if (fine) {
                m.cases.add(new int[] {a, b, c, d});
            }
            due("newCase", real.newCase(a, b, c, d), fine ? m.cases.size() - 1 : -1);
        }

        void readText(String text) {
            byte[] bytes = Arrays.copyOf(latin(text), 320);
            due("end 0", real.end(0), 0);
            m.tape = "";
            for (int at = 0; at < text.length(); at += 20) {
                int[] w = new int[5];
                for (int i = 0; i < 20; i++) {
                    w[i / 4] = w[i / 4] << 8 | bytes[at + i] & 255;
                }
                due("feed", real.feed(w[0], w[1], w[2], w[3], w[4]), at + 20);
            }
            due("end", real.end(text.length()), text.length());
            m.tape = text;
            takeText();
        }

        void takeText() {
            int want = -1;
            if (m.texts.size() < 4) {
                Script s = Script.read(m.tape);
                m.fault = s.fault;
                m.place = s.place;
                m.tape = "";
                if (s.fault == 0) {
                    m.texts.add(s);
                    want = m.texts.size() - 1;
                }
            }
            due("text", real.text(), want);
            due("fault 0", real.fault(0), m.fault);
            due("fault 1", real.fault(1), m.place);
        }

        void hour(int n) {
            int want = -1;
            if (n >= 1 && n <= 60 && m.now.hour + n <= 9999) {
                want = 0;
                for (int i = 0; i < n; i++) {
                    m.step();
                    want += m.hourPasses();
                }
            }
            due("hour " + n, real.hour(n), want);
        }

        void act() {
            int p = r.nextInt(100);
            if (p < 6) {
                newCase();
            } else if (p < 10) {
                readText(r.nextInt(4) == 0 ? Writer.mutated(r, Writer.text(r)) : Writer.text(r));
            } else if (p < 16) {
                int t = any(0, Math.max(0, m.texts.size() - 1));
                boolean fine = t >= -1 && t < m.texts.size();
                if (fine) {
                    m.ruling = t;
                }
                due("by " + t, real.by(t) ? 1 : 0, fine ? 1 : 0);
            } else if (p < 36) {
                call(any(0, Math.max(0, m.cases.size() - 1)));
            } else if (p < 42) {
                delay();
            } else if (p < 50) {
                appeal(any(0, Math.max(0, m.cases.size() - 1)));
            } else if (p < 54) {
                gust(some(0, 3), some(0, 9));
            } else if (p < 57) {
                withdraw();
            } else if (p < 77) {
                hour(r.nextInt(20) == 0 ? some(1, 60) : any(1, 6));
            } else if (p < 80) {
                play(any(0, Math.max(0, m.texts.size() - 1)));
            } else if (p < 85) {
                decades(some(0, 9999), some(1, 40));
            } else if (p < 92) {
                undo();
            } else if (p < 94) {
                m.image = m.copy();
                due("image", real.image(), m.now.hour);
            } else if (p < 95) {
                back();
            } else {
                tell();
            }
        }

        void call(int c) {
            boolean fine = canThen(() -> m.bring(c));
            due("call " + c, real.call(c) ? 1 : 0, fine ? 1 : 0);
        }

        void delay() {
            boolean fine = canThen(() -> m.putOff());
            due("delay", real.delay(), fine ? m.now.delays : -1);
        }

        /** A step that is kept only if it can be. */
        boolean canThen(java.util.function.BooleanSupplier deed) {
            List<State> old = new ArrayList<>(m.steps);
            m.step();
            boolean fine = deed.getAsBoolean();
            if (!fine) {
                m.steps = old;
            }
            return fine;
        }

        void appeal(int c) {
            boolean fine = canThen(() -> m.reopen(c));
            due("appeal " + c, real.appeal(c) ? 1 : 0, fine ? 1 : 0);
        }

        boolean gusts(int q, int f) {
            if (q < 0 || q > 3 || f < 0 || f > 9 || (q == m.now.quarter && f == m.now.force)) {
                return false;
            }
            m.now.quarter = q;
            m.now.force = f;
            return true;
        }

        void gust(int q, int f) {
            boolean fine = canThen(() -> gusts(q, f));
            due("gust", real.gust(q, f) ? 1 : 0, fine ? 1 : 0);
        }

        void withdraw() {
            int c = m.now.inCourt;
            if (c >= 0) {
                m.step();
                m.letGo();
            }
            due("withdraw", real.withdraw(), c);
        }

        void play(int t) {
            int want = -2;
            if (t >= 0 && t < m.texts.size()) {
                want = -1;
                List<Clause> all = m.texts.get(t).clauses;
                for (int i = 0; i < all.size() && want == -1; i++) {
                    if (!does(all.get(i))) {
                        want = i;
                    }
                }
            }
            due("played " + t, real.played(t), want);
        }

        boolean does(Clause c) {
            List<Integer> n = c.numbers;
            switch (c.head) {
                case "case":
                    if (m.cases.size() == 8) {
                        return false;
                    }
                    m.cases.add(new int[] {n.get(0), n.get(1), n.get(2), 0});
                    return true;
                case "call":
                    return canThen(() -> m.bring(n.get(0)));
                case "delay":
                    return canThen(() -> m.putOff());
                case "appeal":
                    return canThen(() -> m.reopen(n.get(0)));
                case "gust":
                    return canThen(() -> gusts(n.get(0), n.get(1)));
                case "withdraw":
                    if (m.now.inCourt < 0) {
                        return false;
                    }
                    m.step();
                    m.letGo();
                    return true;
                case "hour":
                    for (int i = 0; i < n.get(0); i++) {
                        if (m.now.hour == 9999) {
                            return false;
                        }
                        m.step();
                        m.hourPasses();
                    }
                    return true;
                default:
                    return true;
            }
        }

        void decades(int seed, int n) {
            int want = -1;
            if (seed >= 0 && seed <= 9999 && n >= 1 && n <= 40 && !m.cases.isEmpty()) {
                m.step();
                m.now.x = seed * 2 + 107;
                for (int i = 0; i < n; i++) {
                    int x = m.draw();
                    int c = x % m.cases.size();
                    if (x % 7 <= 1) {
                        m.bring(c);
                    } else if (x % 7 == 2) {
                        m.putOff();
                    } else if (x % 7 == 3) {
                        m.reopen(c);
                    } else if (m.now.hour < 9999) {
                        m.hourPasses();
                    }
                }
                want = m.now.hour;
            }
            due("decades", real.decades(seed, n), want);
        }

        void undo() {
            int want = -1;
            if (!m.steps.isEmpty()) {
                m.now = m.steps.remove(m.steps.size() - 1);
                want = m.steps.size();
            }
            due("undo", real.undo(), want);
        }

        void back() {
            Model old = m;
            m = old.image.copy();
            m.image = old.image;
            m.tape = old.tape;
            m.fault = old.fault;
            m.place = old.place;
            due("back", real.back(), m.now.hour);
        }

        void tell() {
            int p = r.nextInt(7);
            if (p < 2) {
                int c = any(0, Math.max(0, m.cases.size() - 1)), q = some(0, 3);
                boolean g = r.nextBoolean();
                int want = -2;
                if (c == -1) {
                    m.records.clear();
                    want = 0;
                } else if (c >= 0 && c < m.cases.size() && q >= 0 && q <= 3 && m.records.size() < 8) {
                    m.records.add(new int[] {c, q, g ? 1 : 0});
                    want = m.records.size();
                }
                due("record", real.record(c, q, g), want);
            } else if (p < 5) {
                int c = any(0, Math.max(0, m.cases.size() - 1));
                boolean g = r.nextBoolean();
                int want = -2;
                if (c == -1) {
                    m.learned.clear();
                    want = 0;
                } else if (c >= 0 && c < m.cases.size() && m.learned.size() < 8) {
                    m.learned.add(new int[] {c, g ? 1 : 0});
                    want = m.learned.size();
                }
                due("learn", real.learn(c, g), want);
            } else {
                int a = r.nextInt(20) == 0 ? -1 : r.nextBoolean() ? some(1, 9) : some(1, 999);
                int b = r.nextBoolean() ? some(0, 5) : some(0, 99);
                int want = -2;
                if (a == -1) {
                    m.counsel.clear();
                    want = 0;
                } else if (a >= 1 && a <= 999 && b >= 0 && b <= 99 && m.counsel.size() < 8) {
                    m.counsel.add(new int[] {a, b});
                    want = m.counsel.size();
                }
                due("counsel", real.counsel(a, b), want);
            }
        }

        void ask() {
            int c = any(0, Math.max(0, m.cases.size() - 1));
            boolean told = c >= 0 && c < m.cases.size();
            switch (r.nextInt(22)) {
                case 0:
                    int w = any(0, 6);
                    due("ofCase", real.ofCase(c, w), ofCase(c, w));
                    break;
                case 1: case 2:
                    for (int i = -1; i <= 9; i++) {
                        due("is " + i, real.is(i), is(i));
                    }
                    for (int i = -1; i <= 8; i++) {
                        due("about " + i, real.about(i), about(i));
                    }
                    for (int i = 0; i < m.cases.size(); i++) {
                        due("ofCase 4", real.ofCase(i, 4), m.now.how[i]);
                        due("ofCase 5", real.ofCase(i, 5), m.now.sentence[i]);
                    }
                    break;
                case 3:
                    due("book", real.book(-1, 0), m.now.book.size());
                    int i = any(0, Math.max(0, m.now.book.size() - 1)), q = any(0, 3);
                    boolean there = i >= 0 && i < m.now.book.size() && q >= 0 && q <= 3;
                    if (i != -1) {
                        due("book " + i, real.book(i, q), there ? m.now.book.get(i)[q] : -2);
                    }
                    break;
                case 4:
                    foretold();
                    break;
                case 5: case 6:
                    int k = any(0, 20), d = any(0, 3), what = any(0, 2);
                    boolean fine = m.waits(c) && k >= 0 && k <= 20 && d >= 0 && d <= 3 && what >= 0 && what <= 2;
                    int[] e = fine ? m.end(c, k, d) : null;
                    due("ends " + c + " " + k + " " + d + " " + what, real.ends(c, k, d, what), e == null ? -1 : e[what]);
                    break;
                case 7: case 8:
                    best(c);
                    break;
                case 9: case 10:
                    odds();
                    break;
                case 11:
                    clash(c, told);
                    break;
                case 12:
                    boolean a = r.nextBoolean();
                    int[] first = new int[1];
                    int value = m.waits(c) ? m.duel(c, a, 0, 0, first) : -1;
                    due("game " + c + a, real.game(c, a, false), value);
                    due("game " + c + a, real.game(c, a, true), m.waits(c) ? first[0] : -1);
                    break;
                case 13:
                    session();
                    break;
                case 14: case 15:
                    records();
                    break;
                case 16: case 17:
                    codes(c, told);
                    break;
                case 18:
                    hired();
                    break;
                default:
                    calm();
                    break;
            }
        }

        int ofCase(int c, int w) {
            if (c < 0 || c >= m.cases.size() || w < 0 || w > 6) {
                return -1;
            }
            int[] told = m.cases.get(c);
            return w < 4 ? told[w] : w == 4 ? m.now.how[c] : w == 5 ? m.now.sentence[c] : m.now.appealed[c] ? 1 : 0;
        }

        int is(int w) {
            State s = m.now;
            int[] all = {s.quarter, s.force, s.fog ? 1 : 0, s.hour, s.x, s.inCourt, s.heard, s.laws, s.delays};
            return w < 0 || w > 8 ? -2 : all[w];
        }

        int about(int w) {
            int[] all = {m.cases.size(), m.texts.size(), m.ruling, m.steps.size(), m.records.size(), m.learned.size(),
                m.counsel.size(), m.tape.length()};
            return w < 0 || w > 7 ? -2 : all[w];
        }

        Model living() {
            Model l = new Model();
            l.now = m.now.copy();
            l.cases = m.cases;
            l.texts = m.texts;
            l.ruling = m.ruling;
            return l;
        }

        void foretold() {
            int n = some(1, 60), w = any(0, 2), want = -1;
            if (n >= 1 && n <= 60 && w >= 0 && w <= 2) {
                Model l = living();
                for (int i = 0; i < n && l.now.hour < 9999; i++) {
                    l.hourPasses();
                }
                want = w == 0 ? l.now.quarter : w == 1 ? l.now.force : l.now.fog ? 1 : 0;
            }
            due("foretold " + n + " " + w, real.foretold(n, w), want);
        }

        void best(int c) {
            boolean g = r.nextBoolean();
            int[] found = {-1, -1, -1};
            int harshest = m.waits(c) ? 0 : -1;
            for (int k = 0; k <= 20 && m.waits(c); k++) {
                for (int d = 0; d <= 3; d++) {
                    int[] e = m.end(c, k, d);
                    if (e != null && (e[1] == 1) == g && (found[2] < 0 || e[0] < found[2])) {
                        found = new int[] {k, d, e[0]};
                    }
                    harshest = Math.max(harshest, e == null ? 0 : e[2]);
                }
            }
            for (int w = 0; w < 3; w++) {
                due("best " + c + g + w, real.best(c, g, w), found[w]);
            }
            due("best 3", real.best(c, g, 3), -1);
            due("harshest " + c, real.harshest(c), harshest);
        }

        void odds() {
            long[] o = {-1, -1};
            int c = m.now.inCourt;
            if (c >= 0) {
                int togo = m.cases.get(c)[2] + m.now.delays - m.now.heard;
                if (togo <= 3) {
                    o = m.odds(togo);
                    long g = java.math.BigInteger.valueOf(o[0]).gcd(java.math.BigInteger.valueOf(o[1])).longValue();
                    o = new long[] {o[0] / g, o[1] / g};
                }
            }
            due("odds false", real.odds(false), o[0]);
            due("odds true", real.odds(true), o[1]);
        }

        int clashOf(int c, int facts) {
            int bits = 0;
            for (int q = 0; q < 4; q++) {
                bits |= m.guilty(m.rules(), c, facts, q, m.cases.get(c)[2]) ? 1 << q : 0;
            }
            return bits;
        }

        void clash(int c, boolean told) {
            due("clash", real.clash(c), told ? clashOf(c, m.cases.get(c)[3]) : -1);
            int best = -1;
            for (int set = 0; set < 256 && told; set++) {
                int bits = clashOf(c, m.cases.get(c)[3] ^ set);
                if ((bits == 0 || bits == 15) && (best < 0 || Integer.bitCount(set) < Integer.bitCount(best))) {
                    best = set;
                }
            }
            due("leastFacts", real.leastFacts(c), best);
        }

        void session() {
            int set = r.nextInt(20) == 0 ? strange() : r.nextInt(1 << Math.max(1, m.cases.size()));
            if (r.nextInt(4) > 0) {
                for (int c = 0; c < 8; c++) {
                    if (!m.waits(c)) {
                        set &= ~(1 << c);
                    }
                }
            }
            List<Integer> all = new ArrayList<>();
            boolean fine = set > 0 && set < 256 && Integer.bitCount(set) <= 5;
            for (int c = 0; c < 8; c++) {
                if ((set >> c & 1) == 1) {
                    all.add(c);
                    fine &= m.waits(c);
                }
            }
            List<Integer> found = fine ? m.session(all, new ArrayList<>()) : null;
            for (int i = -2; i < 6; i++) {
                int want = fine && i >= -1 && i < all.size() ? found.get(i + 1) : -2;
                due("session " + set + " " + i, real.session(set, i), want);
            }
        }

        void records() {
            int turned = 0, fewest = 99, whose = 0;
            for (int t = 0; t < 4; t++) {
                int bad = 0;
                for (int[] rec : m.records) {
                    bad += m.guilty(m.rules(), rec[0], m.cases.get(rec[0])[3], (rec[1] + t) % 4, m.cases.get(rec[0])[2])
                            != (rec[2] == 1) ? 1 : 0;
                }
                turned |= bad == 0 ? 1 << t : 0;
                fewest = Math.min(fewest, bad);
            }
            for (int t = 0; t < m.texts.size(); t++) {
                boolean right = true;
                for (int[] rec : m.records) {
                    right &= m.guilty(m.texts.get(t), rec[0], m.cases.get(rec[0])[3], rec[1], m.cases.get(rec[0])[2])
                            == (rec[2] == 1);
                }
                whose |= right ? 1 << t : 0;
            }
            due("turned", real.turned(), turned);
            due("fewestWrong", real.fewestWrong(), fewest);
            due("whose", real.whose(), whose);
        }

        void codes(int c, boolean told) {
            List<Integer> fit = new ArrayList<>();
            for (int set = 0; set < 256; set++) {
                boolean right = true;
                for (int[] l : m.learned) {
                    right &= ((m.cases.get(l[0])[3] & set) == set) == (l[1] == 1);
                }
                if (right) {
                    fit.add(set);
                }
            }
            due("codes", real.codes(-1), fit.size());
            int i = r.nextInt(fit.size() + 2) - 2;
            due("codes " + i, real.codes(i), i == -1 ? fit.size() : i >= 0 && i < fit.size() ? fit.get(i) : -1);
            due("codes end", real.codes(fit.size()), -1);
            int sure = -1;
            if (told && !fit.isEmpty()) {
                int g = guiltyOf(fit, c);
                sure = g == fit.size() ? 1 : g == 0 ? 0 : -1;
            }
            due("sure", real.sure(c), sure);
            int bring = -1;
            for (int b = 0; b < m.cases.size(); b++) {
                int g = guiltyOf(fit, b);
                if (g > 0 && g < fit.size()
                        && (bring < 0 || Math.abs(g - fit.size() / 2.0) < Math.abs(guiltyOf(fit, bring) - fit.size() / 2.0))) {
                    bring = b;
                }
            }
            due("toBring", real.toBring(), bring);
        }

        int guiltyOf(List<Integer> fit, int c) {
            int g = 0;
            for (int set : fit) {
                g += (m.cases.get(c)[3] & set) == set ? 1 : 0;
            }
            return g;
        }

        void hired() {
            int p = r.nextInt(3) == 0 ? some(0, 9999) : r.nextInt(40);
            int skill = -1, price = 0, who = -1;
            for (int set = 0; set < 1 << m.counsel.size() && p >= 0 && p <= 9999; set++) {
                int s = 0, cost = 0;
                for (int i = 0; i < m.counsel.size(); i++) {
                    s += (set >> i & 1) * m.counsel.get(i)[1];
                    cost += (set >> i & 1) * m.counsel.get(i)[0];
                }
                if (cost <= p && (s > skill || (s == skill && cost < price))) {
                    skill = s;
                    price = cost;
                    who = set;
                }
            }
            due("hired", real.hired(p, false), skill);
            due("hired who", real.hired(p, true), who);
        }

        void calm() {
            int n = some(1, 60), q = any(0, 3), longest = -1, standing = -1;
            if (n >= 1 && n <= 60) {
                longest = 0;
                standing = 0;
                int run = 0;
                Model l = living();
                for (int i = 0; i < n && l.now.hour < 9999; i++) {
                    run = l.now.force == 0 || l.now.fog ? run + 1 : 0;
                    longest = Math.max(run, longest);
                    standing += l.now.quarter == q ? 1 : 0;
                    l.hourPasses();
                }
            }
            due("calm", real.calm(n), longest);
            due("standing", real.standing(n, q), q < 0 || q > 3 ? -1 : standing);
        }
    }
}
