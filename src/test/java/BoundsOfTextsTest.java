/** The bounds of part II: the tape, tokens, clauses, what sums and questions are worth, each fault and its place. */
public final class BoundsOfTextsTest extends Trial {
    public static void main(String[] args) {
        tape();
        tapeIsCut();
        fourTexts();
        latestFault();
        nothingOfAFault();
        fullTape();
        blanks();
        words();
        numbers();
        longestSigns();
        shapes();
        numbersTold();
        openOnes();
        openAndClosed();
        secondTime();
        namesOfClauses();
        factsOfClauses();
        manyClauses();
        partsOfMost();
        leastOfOne();
        firstOfAll();
        lastByte();
        dividing();
        greatest();
        comparing();
        mostAreSo();
        unless();
        whoRules();
        codeWithout();
        veersWithout();
        lawsThatATextHasNot();
        blows();
        fogsWithout();
        sentenceWithout();
        newWindOfLaws();
        played();
        playedRefused();
        playedHours();
        finish();
    }

    // ---------------------------------------------------------------- the tape

    private static void tape() {
        says("Twenty bytes come behind the tape: how many it has");
        VaneCourt x = new VaneCourt();
        for (int i = 1; i <= 15; i++) {
            due("feed", x.feed(LOW, HIGH, -1, 0, 1), 20 * i);
            due("about", x.about(7), 20 * i);
        }
        says("NONE, and none come, if there would be more than 300");
        due("320", x.feed(0, 0, 0, 0, 0), NONE);
        due("none came", x.about(7), 300);
        for (int length = 279; length <= 282; length++) {
            VaneCourt y = new VaneCourt();
            for (int i = 0; i < 15; i++) {
                y.feed(0, 0, 0, 0, 0);
            }
            y.end(length);
            due("20 behind " + length, y.feed(0, 0, 0, 0, 0), length <= 280 ? length + 20 : NONE);
            due("about", y.about(7), length <= 280 ? length + 20 : length);
        }
        says("the highest of a first");
        VaneCourt z = new VaneCourt();
        // "gust 3 force 8;" and five blanks.
        due("feed", z.feed(0x67757374, 0x20332066, 0x6F726365, 0x20383B20, 0x20202020), 20);
        due("text", z.text(), 0);
        due("played", z.played(0), NONE);
        due("quarter", z.is(0), 3);
        due("force", z.is(1), 8);
        says("if there would be more than 300: what was there stays");
        VaneCourt v = new VaneCourt();
        feedBytes(v, "delay;" + " ".repeat(284) + "withdraw;");
        due("full", v.about(7), 299);
        due("refused", v.feed(0x21212121, 0x21212121, 0x21212121, 0x21212121, 0x21212121), NONE);
        due("its own bytes", v.text(), 0);
    }

    private static void tapeIsCut() {
        says("The tape has its first n bytes alone: n. NONE, if it has not so many, or n is below 0");
        VaneCourt x = new VaneCourt();
        due("0 of none", x.end(0), 0);
        due("1 of none", x.end(1), NONE);
        feedBytes(x, "delay;delay;");
        due("13 of 12", x.end(13), NONE);
        due("-1", x.end(-1), NONE);
        due("lowest", x.end(LOW), NONE);
        due("highest", x.end(HIGH), NONE);
        due("nothing is done", x.about(7), 12);
        due("12 of 12", x.end(12), 12);
        due("6 of 12", x.end(6), 6);
        due("7 of 6", x.end(7), NONE);
        due("its first bytes", x.text(), 0);
        x.feed(0x64656C61, 0x793B2020, 0x20202020, 0x20202020, 0x20202020);
        due("behind what is left", x.about(7), 20);
        due("0 of 20", x.end(0), 0);
        due("empty", x.about(7), 0);
        VaneCourt y = new VaneCourt();
        feedBytes(y, "delay;!!!!!!!!!!!!!!");
        y.end(6);
        y.feed(0x64656C61, 0x793B2020, 0x20202020, 0x20202020, 0x20202020);
        due("bytes come behind the first six", y.about(7), 26);
        due("without those that were cut", y.text(), 0);
    }

    private static void fourTexts() {
        says("TEXTS 0 .. 3; NONE: (the tape stays) there are 4");
        VaneCourt x = new VaneCourt();
        for (int i = 0; i < 4; i++) {
            feedBytes(x, "blows " + (i + 5) + ";");
            due("its number", x.text(), i);
            due("the tape (empty then)", x.about(7), 0);
            due("how many", x.about(1), i + 1);
        }
        feedBytes(x, "blows 1;");
        due("a fifth", x.text(), NONE);
        due("the tape stays", x.about(7), 8);
        due("four", x.about(1), 4);
        due("a fifth again", x.text(), NONE);
        due("the tape stays", x.about(7), 8);
        for (int i = 0; i < 4; i++) {
            due("by", x.by(i), true);
            due("it rules", x.foretold(1, 1), i + 5);
        }
        due("no fifth", x.by(4), false);
        says("NONE: it has a FAULT");
        VaneCourt y = new VaneCourt();
        for (int i = 0; i < 6; i++) {
            due("a fault", read(y, "delay"), NONE);
            due("it is no text", y.about(1), 0);
            due("the tape (empty then)", y.about(7), 0);
        }
        due("a text behind faults", read(y, "delay;"), 0);
        due("an empty text", read(y, ""), 1);
        due("blanks alone", read(y, " \n"), 2);
        due("laws of a fault don't stay", read(y, "blows 9;veers 9;x"), NONE);
        due("the fourth", read(y, "fogs 1=0;"), 3);
        y.by(3);
        due("without blows: the draw", y.foretold(1, 1), 7);
        due("played", y.played(3), NONE);
        says("TEXTS 0 .. 3: of up to 300 bytes");
        VaneCourt z = new VaneCourt();
        due("300 bytes", feedBytes(z, "blows 1;" + " ".repeat(284) + "hour 60;"), 300);
        due("a text", z.text(), 0);
        due("all of it", z.played(0), NONE);
        due("its last clause", z.is(3), 60);
        due("300 bytes", feedBytes(z, "delay;" + " ".repeat(293) + "x"), 300);
        due("a text", z.text(), NONE);
        due("at its last byte", z.fault(1), 299);
        due("300 bytes", feedBytes(z, "delay" + " ".repeat(295)), 300);
        due("a text", z.text(), NONE);
        due("at its end", z.fault(1), 300);
    }

    private static void latestFault() {
        says("Of the latest text that was read: 0 its FAULT (0 without), 1 its place (NONE without)");
        VaneCourt x = new VaneCourt();
        due("ahead of any", x.fault(0), NONE);
        due("ahead of any", x.fault(1), NONE);
        feedBytes(x, "delay");
        due("not read yet", x.fault(0), NONE);
        x.text();
        due("with", x.fault(0), 1);
        due("with", x.fault(1), 5);
        due("others", x.fault(2), NONE);
        due("others", x.fault(-1), NONE);
        due("others", x.fault(HIGH), NONE);
        due("others", x.fault(LOW), NONE);
        x.text();
        due("an empty one: without", x.fault(0), 0);
        due("an empty one: without", x.fault(1), NONE);
        due("others", x.fault(2), NONE);
        read(x, "call 8;");
        due("with", x.fault(0), 2);
        due("with", x.fault(1), 5);
        x.image();
        read(x, "veers kind;");
        x.back();
        due("the latest, behind an image", x.fault(0), 5);
        due("the latest, behind an image", x.fault(1), 6);
        for (int i = 1; i < 4; i++) {
            read(x, "");
        }
        due("four", x.about(1), 4);
        feedBytes(x, "!");
        due("none is read beyond four", x.text(), NONE);
        due("the latest read", x.fault(0), 0);
        due("the latest read", x.fault(1), NONE);
    }

    private static void nothingOfAFault() {
        says("NONE: it has a FAULT (nothing of it is in a later TEXT)");
        String laws = "code 0:1=1;code 1:1=1;code 2:1=1;code 3:1=1;veers 2;blows 9;fogs 1=1;sentence 3;";
        VaneCourt x = new VaneCourt();
        x.newCase(0, 2, 1, 1);
        for (int i = 0; i < 4; i++) {
            due("a fault behind all laws", read(x, laws + "delay;case 9"), NONE);
        }
        due("an empty text", read(x, ""), 0);
        x.by(0);
        due("codes as without", x.clash(0), 3);
        due("veers as without", x.foretold(1, 0), 0);
        due("blows as without", x.foretold(1, 1), 7);
        due("fogs as without", x.foretold(1, 2), 0);
        due("sentence as without", x.ends(0, 0, 0, 2), 2);
        due("no clause", x.played(0), NONE);
        due("a fault behind all laws", read(x, laws + "x"), NONE);
        due("all laws once, behind it", read(x, laws), 1);
        x.by(1);
        due("its codes", x.clash(0), 15);
        due("its veers", x.foretold(1, 0), 2);
        due("its sentence", x.ends(0, 0, 0, 2), 3);
        for (int i = 0; i < 6; i++) {
            due("a long fault", read(x, "veers 1" + "+1".repeat(140) + "!"), NONE);
        }
        due("a text behind long ones", read(x, "veers 0" + "+0".repeat(140) + "+3;"), 2);
        x.by(2);
        due("all of it", x.foretold(1, 0), 3);
        due("24 clauses and a fault", read(x, "delay;".repeat(24) + "x"), NONE);
        due("24 clauses", read(x, "hour 1;".repeat(24)), 3);
        due("all are played", x.played(3), NONE);
        due("hours", x.is(3), 24);
    }

    private static void fullTape() {
        says("of up to 300 bytes: each may be a TOKEN, each a blank");
        fault(";".repeat(300), 1, 0);
        fault("1 ".repeat(150), 1, 0);
        fault(" ".repeat(299) + "x", 1, 299);
        fault("\n".repeat(299) + ";", 1, 299);
        fine(" ".repeat(300));
        fine("\n".repeat(300));
        fine(" ".repeat(294) + "delay;");
        fine("veers " + "1+".repeat(146) + "1;");
        fault("veers " + "1+".repeat(147), 1, 300);
        fault("veers " + "1*".repeat(146) + "1)", 1, 299);
        fine("fogs 1=1" + " or 1=1".repeat(41) + "    ;");
        fine("fogs 1=1" + " and 1=1".repeat(36) + "   ;");
        VaneCourt x = ruledBy("blows " + "1-".repeat(140) + "1*0+143;");
        due("the last of them counts", x.foretold(1, 1), 5);
    }

    // ---------------------------------------------------------------- tokens

    private static void blanks() {
        says("TOKENS, blanks (32, 10) aside");
        for (int sign = 0; sign < 256; sign++) {
            String one = String.valueOf((char) sign);
            boolean blank = sign == 32 || sign == 10;
            if (sign == ';') {
                continue;
            }
            boolean begins = sign >= 'a' && sign <= 'z' || sign >= 'A' && sign <= 'Z';
            fault(one + "delay;", blank ? 0 : 1, blank ? NONE : 0);
            fault("delay" + one + ";", blank ? 0 : 1, blank ? NONE : begins ? 0 : 5);
            fault("delay;" + one, blank ? 0 : 1, blank ? NONE : 6);
        }
        fine(" \n \n");
        fine("\ncode\n0\n:\nfact\n0\n;\n");
        fine("code0:fact0unless fact1;hour60;gust0force9;");
    }

    private static void words() {
        says("letters a .. z, A .. Z one behind the other (one TOKEN)");
        String[] all = {"!Delay;", "!DELAY;", "!delaydelay;", "!delayx;", "!dela;", "!delayZ;", "!Adelay;", "!zdelay;",
            "!delaywithdraw;", "!delaY;", "!x;", "!codeveers 0;", "veers !hourforce;", "veers hour !force;",
            "code 0:!notfact 0;", "code 0:fact 0 !unlessfact 1;", "fogs !mostx(1=1);", "!veershour;"};
        for (String one : all) {
            faultAt(1, one);
        }
        fault("delay withdraw;", 1, 6);
        fine("delay;withdraw;");
    }

    private static void numbers() {
        says("digits likewise (NUMBERS, 0 .. 9999)");
        fine("veers 9999;");
        fine("veers 0;");
        fine("veers 0009999;");
        fine("veers 00000000000000000000000000007;");
        faultAt(2, "veers !10000;");
        faultAt(2, "veers !010000;");
        faultAt(2, "veers !65536;");
        faultAt(2, "veers !4294967296;");
        faultAt(2, "veers !18446744073709551616;");
        faultAt(2, "veers 1+(!10000);");
        fine("veers 1+(9999);");
        faultAt(1, "veers 1 !2;");
        fine("veers 12;");
        faultAt(1, "veers 1 !10000;");
        VaneCourt x = ruledBy(STILL + "code 0:1=1;sentence 0012+00;");
        x.newCase(0, 1, 1, 0);
        due("12", x.ends(0, 0, 0, 2), 12);
    }

    private static void longestSigns() {
        says("(the longest)");
        fine("fogs 1<=1;");
        fine("fogs 1>=1;");
        fault("fogs 1< =1;", 1, 8);
        fault("fogs 1> =1;", 1, 8);
        fault("fogs 1=<1;", 1, 7);
        fault("fogs 1=>1;", 1, 7);
        fault("fogs 1==1;", 1, 7);
        fault("fogs 1##1;", 1, 7);
        fault("fogs 1<<1;", 1, 7);
        fault("fogs 1<>1;", 1, 7);
        fault("fogs 1<==1;", 1, 8);
        fault("fogs 1<", 1, 7);
        fault("fogs 1>=", 1, 8);
        fault("fogs <=1;", 1, 5);
    }

    // ---------------------------------------------------------------- faults

    private static void shapes() {
        says("1 it can't stand there, or is none (of the end at the length)");
        String[] good = {"code 0:fact 0;", "veers 1;", "blows 1;", "fogs 1=1;", "sentence 1;",
            "case 0 gravity 1 needs 1;", "call 0;", "delay;", "appeal 0;", "gust 0 force 0;", "withdraw;", "hour 1;"};
        for (String clause : good) {
            fine(clause);
            fine(clause + "\n");
            String open = clause.substring(0, clause.length() - 1);
            fault(open, 1, open.length());
            fault(open + " \n ", 1, open.length() + 3);
            fault(open + ")", 1, open.length());
            fault(clause + ";", 1, clause.length());
            fault(open + ",1;", 1, open.length());
            fault(clause + "fact", 1, clause.length());
            fault("delay;" + open + "?", 1, 6 + open.length());
        }
        String[] bad = {"!;", "!:", "!1;", "!0", "!force 1;", "!quarter;", "!fact 0;", "!not 1=1;", "!needs 1;", "!(1);",
            "code !: 1=1;", "code 0 !1=1;", "code 0:!;", "code 0:fact !;", "code 0:fact !fact 0;", "code 0:fact !hour;",
            "code 0:fact !-1;", "code 0:fact !(1);", "code 0:fact 0 !fact 1;", "code 0:fact 0 and !;",
            "code 0:fact 0 or !;", "code 0:fact 0 unless !;", "code 0:fact 0 unless fact 1 !unless fact 2;",
            "code 0:not !;", "code 0:(!fact 0);", "code 0:(1!=1);", "code 0:(1 !and 1=1);", "code 0:1!;", "code 0:1=!;",
            "code 0:1=1!=1;", "code 0:1+!=1;", "code 0:1*!;", "code 0:(!);", "code 0:(1!;",
            "code 0:most!;", "code 0:most !fact 0;", "code 0:most(!);", "code 0:most(fact 0!;", "code 0:most(fact 0,!);",
            "code 0:most(fact 0 !unless fact 1);", "code 0:(1)!;", "code 0:1=(!not 1=1);", "code 0:1=!most(1=1);",
            "code 0:1=!not 1=1;", "code 0:1=!fact 0;", "code 0:-!not 1=1;", "code 0:-!fact 0;", "code 0:!+1=1;",
            "code 0:!or 1=1;", "code 0:!and 1=1;", "code 0:1 !or 1=1;", "code 0:1=1 or !or 1=1;",
            "code 0:1=1 and !or 1=1;", "code 0:1=1 or !and 1=1;", "code 0:1=1 and !and 1=1;", "code 0:not !or 1=1;",
            "code 0:1=!or 1=1;", "code 0:fact !or 1=1;", "code 0:most(!or 1=1);", "code 0:!unless 1=1;",
            "code 0:1 !unless 1=1;", "veers !*2;", "veers !/2;", "veers !+2;", "veers 1*!*2;", "veers 1/!*2;",
            "veers 1+!*2;", "veers 1-!/2;", "veers 1*!+2;", "veers -!*2;", "veers (!*2);", "veers (1+!)*2;",
            "code !;", "code !veers;", "code !-1:1=1;",
            "veers !;", "veers 1!=1;", "veers !not 1=1;", "veers !most(1=1);", "veers 1 !or 1;", "veers 1!,1;",
            "veers !unless;", "veers !code;", "veers !needs;", "veers !:1;", "veers 1!:;", "blows !;", "sentence !;",
            "sentence 1 !unless 1;", "fogs !;", "fogs !code;", "case !;", "case 0 !1;", "case 0 !needs 1 gravity 1;",
            "case 0 gravity !needs 1;", "case 0 gravity 1 !;", "case 0 gravity 1 needs !;", "case 0 gravity 1 needs 1 !1;",
            "case !-1 gravity 1 needs 1;", "call !;", "call !hour;", "call 0 !1;", "call !(0);", "delay !0;", "appeal !;",
            "gust 0 !0;", "gust 0 !;", "gust !force 0;", "gust 0 force !;", "withdraw !0;", "hour !;", "hour !hour;",
            "hour !-1;", "hour 1 !+1;"};
        for (String marked : bad) {
            faultAt(1, marked);
        }
    }

    private static void numbersTold() {
        says("2 a NUMBER that isn't one of those told");
        String[][] told = {{"code ", ":fact 0;", "0", "3"}, {"case ", " gravity 1 needs 1;", "0", "5"},
            {"case 0 gravity ", " needs 1;", "1", "9"}, {"case 0 gravity 1 needs ", ";", "1", "9"},
            {"call ", ";", "0", "7"}, {"appeal ", ";", "0", "7"}, {"gust ", " force 1;", "0", "3"},
            {"gust 1 force ", ";", "0", "9"}, {"hour ", ";", "1", "60"}, {"code 0:fact ", ";", "0", "7"},
            {"code 0:most(not fact ", ");", "0", "7"}, {"veers ", ";", "0", "9999"}, {"blows ", ";", "0", "9999"},
            {"sentence ", ";", "0", "9999"}, {"fogs ", "=1;", "0", "9999"}, {"fogs 1=", ";", "0", "9999"},
            {"code 0:1=", ";", "0", "9999"}};
        for (String[] t : told) {
            int low = Integer.parseInt(t[2]);
            int high = Integer.parseInt(t[3]);
            for (int number = low; number <= high; number += high > 60 ? 9999 : 1) {
                fine(t[0] + number + t[1]);
            }
            if (low > 0) {
                fault(t[0] + (low - 1) + t[1], 2, t[0].length());
            }
            fault(t[0] + (high + 1) + t[1], 2, t[0].length());
            fault(t[0] + "10000" + t[1], 2, t[0].length());
            fault("delay;" + t[0] + "99999999999" + t[1], 2, 6 + t[0].length());
        }
    }

    private static void openOnes() {
        says("3 the 9th of ( not most and - (of one ONE) that are open around one another (at it)");
        fine("veers " + "(".repeat(8) + "1" + ")".repeat(8) + ";");
        fault("veers " + "(".repeat(9) + "1" + ")".repeat(9) + ";", 3, 14);
        fine("veers " + "-".repeat(8) + "1;");
        fault("veers " + "-".repeat(9) + "1;", 3, 14);
        fine("fogs " + "not ".repeat(8) + "1=1;");
        fault("fogs " + "not ".repeat(9) + "1=1;", 3, 5 + 32);
        fine("fogs " + "most(".repeat(8) + "1=1" + ")".repeat(8) + ";");
        fault("fogs " + "most(".repeat(9) + "1=1" + ")".repeat(9) + ";", 3, 5 + 40);
        String seven = "not most(not most(not most(not ";
        String ends = ")))";
        for (String one : new String[] {"(1)=1", "-1=1", "not 1=1", "most(1=1)"}) {
            fine("code 0:" + seven + one + ends + ";");
            for (String eighth : new String[] {"not ", "most("}) {
                String open = "code 0:" + seven + eighth;
                fault(open + one + (eighth.equals("most(") ? ")" : "") + ends + ";", 3, open.length());
            }
            String behind = "code 0:" + seven + "most(1=1,";
            fault(behind + one + ")" + ends + ";", 3, behind.length());
        }
        for (String one : new String[] {"(1)", "-1"}) {
            for (String eighth : new String[] {"(", "-"}) {
                String open = "code 0:" + seven + eighth;
                fault(open + one + (eighth.equals("(") ? ")" : "") + "=1" + ends + ";", 3, open.length());
                String right = "code 0:" + seven + "1=" + eighth;
                fault(right + one + (eighth.equals("(") ? ")" : "") + ends + ";", 3, right.length());
            }
        }
        fault("veers " + "(-".repeat(4) + "(", 3, 14);
        fault("veers " + "(-".repeat(4) + "-", 3, 14);
    }

    private static void openAndClosed() {
        says("3 .. that are open around one another (the ( of most is no other one)");
        String eight = "(".repeat(8) + "1" + ")".repeat(8);
        fine("veers " + eight + "+" + eight + "-" + eight + "*" + eight + ";");
        fine("veers --------1---------1*--------1;");
        fault("veers --------1----------1;", 3, 24);
        fine("veers -(-(-(-(1))))-(-(-(-(-1))));");
        fine("veers (1)+(1)+(1)+(1)+(1)+(1)+(1)+(1)+(1)+(1);");
        fine("veers -1+-1+-1+-1+-1+-1+-1+-1+-1+-1;");
        fine("fogs not 1=1 and not 1=1 and not 1=1 and not 1=1 and not 1=1 and not 1=1 and not 1=1 and not 1=1 or not 1=1;");
        String nots = "not ".repeat(8) + "1=1";
        fine("fogs " + nots + " and " + nots + " or " + nots + " unless " + nots + ";");
        for (String one : new String[] {"not ", "most("}) {
            String behind = "fogs 1=1 unless " + one.repeat(8);
            fault(behind + one, 3, behind.length());
        }
        for (String one : new String[] {"(", "-"}) {
            String behind = "code 0:fact 0 unless " + one.repeat(8);
            fault(behind + one, 3, behind.length());
            String both = "code 0:not fact 0 unless 1=1 and 1<" + one.repeat(8);
            fault(both + one, 3, both.length());
        }
        fine("fogs most(" + "not ".repeat(7) + "1=1," + "not ".repeat(7) + "1=1) and " + nots + ";");
        fine("fogs " + nots.replace("1=1", "1=9-9") + ";");
        fault("fogs " + nots.replace("1=1", "1=-9") + ";", 3, 5 + 32 + 2);
        fine("fogs " + "not ".repeat(7) + "1=-9 and " + "not ".repeat(7) + "-1=(9);");
        fine("fogs most(1=1) and most(1=1) and most(1=1) and most(1=1) and most(1=1) and most(1=1) and most(1=1) and most(1=1)"
                + " and most(1=1);");
    }

    private static void secondTime() {
        says("4 veers, blows, fogs, sentence for the second time (at it)");
        String[] laws = {"veers 1;", "blows 1;", "fogs 1=1;", "sentence 1;"};
        for (String first : laws) {
            for (String second : laws) {
                fault(first + "delay;" + second, first.equals(second) ? 4 : 0, first.equals(second) ? first.length() + 6 : NONE);
            }
        }
        fine("veers 1;blows 1;fogs 1=1;sentence 1;code 0:1=1;code 1:1=1;code 2:1=1;code 3:1=1;");
        faultAt(4, "veers 1;!veers");
        says("4 .. or the QUARTER of a code that was told (at the NUMBER)");
        for (int first = 0; first < 4; first++) {
            for (int second = 0; second < 4; second++) {
                String text = "code " + first + ":1=1;code " + second + ":1=1;";
                fault(text, first == second ? 4 : 0, first == second ? 16 : NONE);
            }
        }
        faultAt(4, "code 1:1=1;code 2:1=1;code !1");
        faultAt(4, "code 1:1=1;code !01:1=1;");
        faultAt(2, "code 1:1=1;code !4:1=1;");
        says("1, 2: what is no QUARTER isn't one that was told");
        for (String no : new String[] {";", ":", "code", "fact", "hour", "x", "", "(", "-0", "=", "<="}) {
            fault("code 0:1=1;code " + no, 1, 16);
        }
        String all = "code 0:1=1;code 1:1=1;code 2:1=1;code 3:1=1;veers 1;blows 1;fogs 1=1;sentence 1;";
        for (int quarter = 4; quarter <= 9; quarter++) {
            fault(all + "code " + quarter + ":1=1;", 2, all.length() + 5);
        }
        for (int quarter = 0; quarter <= 3; quarter++) {
            fault(all + "code " + quarter + ":1=1;", 4, all.length() + 5);
        }
        fine("call 0;call 0;appeal 1;appeal 1;gust 0 force 1;gust 0 force 1;hour 1;hour 1;delay;delay;withdraw;withdraw;");
        fine("case 0 gravity 1 needs 1;case 0 gravity 1 needs 1;");
    }

    private static void namesOfClauses() {
        says("5 a NAME that isn't of that CLAUSE (at it)");
        String[] heads = {"code 0:", "veers ", "blows ", "fogs ", "sentence "};
        String[] names = {"hour", "quarter", "force", "draw", "kind", "gravity", "hours", "laws"};
        String[] may = {"11101110", "11110000", "11110000", "11110000", "11101111"};
        for (int h = 0; h < 5; h++) {
            String end = h == 0 || h == 3 ? "=1;" : ";";
            for (int n = 0; n < 8; n++) {
                boolean fine = may[h].charAt(n) == '1';
                fault(heads[h] + names[n] + end, fine ? 0 : 5, fine ? NONE : heads[h].length());
                String deep = heads[h] + "2*(-(";
                fault(deep + names[n] + "))" + end, fine ? 0 : 5, fine ? NONE : deep.length());
            }
            for (String no : new String[] {"needs", "facts", "heard", "delays", "wind", "fog", "veers", "case", "Hour"}) {
                fault(heads[h] + no + end, 1, heads[h].length());
            }
        }
        for (int q = 0; q < 4; q++) {
            fault("code " + q + ":draw=1;", 5, 7);
            fault("code " + q + ":laws=1;", 5, 7);
            fine("code " + q + ":kind=gravity-hours;");
        }
    }

    private static void factsOfClauses() {
        says("fact in code alone (most anywhere)");
        for (int q = 0; q < 4; q++) {
            fine("code " + q + ":fact 0;");
            fine("code " + q + ":most(fact 7);");
        }
        faultAt(5, "fogs !fact 0;");
        faultAt(5, "fogs !fact 8;");
        faultAt(5, "fogs !fact;");
        faultAt(5, "fogs not !fact 0;");
        faultAt(5, "fogs 1=1 unless !fact 0;");
        faultAt(5, "fogs 1=1 and !fact 0;");
        faultAt(5, "fogs most(1=1,!fact 0);");
        fine("fogs most(1=1,1=0);");
        says("1 it can't stand there (fact asks, and is no SUM)");
        faultAt(1, "veers !fact 0;");
        faultAt(1, "blows 1+!fact 0;");
        faultAt(1, "sentence !fact 0;");
        faultAt(1, "fogs 1=!fact 0;");
        faultAt(1, "fogs (!fact 0)=1;");
    }

    private static void manyClauses() {
        says("{CLAUSE}, 24 at most; 6 the 25th CLAUSE (at its first TOKEN)");
        String delays = "delay;".repeat(24);
        fine("");
        fine(delays.substring(6));
        fine(delays);
        fine(delays + " \n");
        String[] all = {"code 0:1=1;", "veers 1;", "blows 1;", "fogs 1=1;", "sentence 1;", "case 0 gravity 1 needs 1;",
            "call 0;", "delay;", "appeal 0;", "gust 0 force 0;", "withdraw;", "hour 1;"};
        for (String clause : all) {
            fault(delays + " " + clause, 6, 145);
            fault(delays + clause.substring(0, clause.length() - 1), 6, 144);
            fine(delays.substring(6) + clause);
        }
        fault(delays + "x", 1, 144);
        fault(delays + ";", 1, 144);
        fault(delays + "hour 61;", 6, 144);
        fault("code 0:1=1;veers 1;" + "delay;".repeat(22) + "code 1:1=1;", 6, 19 + 132);
        fault("code 0:1=1;veers 1;" + "delay;".repeat(22) + "code 0:1=1;", 6, 19 + 132);
        VaneCourt x = new VaneCourt();
        read(x, "gust 1 force 1;gust 2 force 1;".repeat(9) + "hour 1;hour 2;hour 3;");
        due("21 clauses are played", x.played(0), NONE);
        due("hours", x.is(3), 6);
        read(x, "hour 1;".repeat(24));
        due("24 clauses are played", x.played(1), NONE);
        due("hours", x.is(3), 30);
        read(x, "hour 1;".repeat(23) + "delay;");
        due("the 24th can't be", x.played(2), 23);
    }

    private static void partsOfMost() {
        says("most (1 to 6); 7 the , ahead of the 7th of one most (at it)");
        for (int many = 1; many <= 6; many++) {
            fine("code 0:most(" + "1=1,".repeat(many - 1) + "1=1);");
        }
        String six = "code 0:most(" + "1=1,".repeat(5) + "1=1";
        fault(six + ",1=1);", 7, six.length());
        fault(six + " , 1=1);", 7, six.length() + 1);
        fault(six + ",", 7, six.length());
        fault(six + ",!", 7, six.length());
        faultAt(1, "code 0:most(!);");
        String inner = "most(1=1,1=1,1=1,1=1,1=1,1=1)";
        fine("code 0:most(" + inner + "," + inner + ",1=1,1=1,1=1,1=1);");
        String outer = "code 0:most(" + inner + ",1=1,1=1,1=1,1=1,1=1";
        fine(outer + ");");
        fault(outer + "," + inner + ");", 7, outer.length());
        String within = "code 0:most(1=1,most(1=1,1=1,1=1,1=1,1=1,1=1";
        fault(within + ",1=1));", 7, within.length());
        fine(within + "),1=1,1=1,1=1,1=1);");
        fine("code 0:" + inner + " and " + inner + " or not " + inner + ";");
    }

    private static void leastOfOne() {
        says("FAULTS: of one the least");
        fault("veers 1;" + "delay;".repeat(23) + "veers 1;", 4, 8 + 138);
        fault("blows 1;" + "delay;".repeat(23) + "blows 1;", 4, 8 + 138);
        fault("fogs 1=1;" + "delay;".repeat(23) + "fogs 1=1;", 4, 9 + 138);
        fault("sentence 1;" + "delay;".repeat(23) + "sentence 1;", 4, 11 + 138);
        fault("veers 1;" + "delay;".repeat(23) + "blows 1;", 6, 8 + 138);
        fault("veers " + "(".repeat(8) + "not", 1, 14);
        fault("veers " + "-".repeat(8) + "most", 1, 14);
        fault("veers " + "(".repeat(8) + "1-(1", 3, 16);
        fault("veers " + "(".repeat(8) + "1(1", 1, 15);
        fault("veers 1 10000;", 1, 8);
        fault("veers kind;", 5, 6);
        fault("veers 1 kind;", 1, 8);
        fault("code 0:most(1=1,1=1,1=1,1=1,1=1,1=1+,", 1, 36);
        fault("code 0:1=1,", 1, 10);
    }

    private static void firstOfAll() {
        says("FAULTS, the first as TOKENS are come to");
        fault("veers kind;blows 10000;", 5, 6);
        fault("blows 10000;veers kind;", 2, 6);
        fault("call 8;!", 2, 5);
        fault("!call 8;", 1, 0);
        fault("code 4!", 2, 5);
        fault("code 4 4", 2, 5);
        fault("fogs fact 8;", 5, 5);
        fault("case 6 gravity 0 needs 0;", 2, 5);
        fault("case 5 gravity 0 needs 0;", 2, 15);
        fault("case 5 gravity 1 needs 0;", 2, 23);
        fault("veers 1;veers kind;", 4, 8);
        fault("veers " + "(".repeat(9) + "kind", 3, 14);
        fault("veers " + "(".repeat(8) + "kind", 5, 14);
        fault("veers 99999 " + "(".repeat(9), 2, 6);
    }

    private static void lastByte() {
        says("at the TOKEN's first byte (of the end at the length)");
        fault("veers 1; \n call 00008;", 2, 16);
        fault("  xyz;", 1, 2);
        fault("fogs 1 <= <= 1;", 1, 10);
        fault("call", 1, 4);
        fault("call  ", 1, 6);
        fault("veers (", 1, 7);
        fault("veers 1", 1, 7);
        fault("veers", 1, 5);
        fault("code 0:most(1=1,", 1, 16);
        String full = "delay;" + " ".repeat(289);
        fault(full + "delay", 1, 300);
        fault(full + "call8", 2, 299);
        fault(full + "call7", 1, 300);
    }

    // ---------------------------------------------------------------- what sums and questions are worth

    private static VaneCourt judged(String laws) {
        VaneCourt x = ruledBy(laws);
        x.newCase(4, 7, 1, 9);
        return x;
    }

    private static void worth(String sum, int value) {
        due("worth of " + sum, judged("code 0:1=1;sentence 500+(" + sum + ");").ends(0, 0, 0, 2), 500 + value);
    }

    private static void so(String whole, boolean due) {
        due(whole, (judged("code 0:" + whole + ";").clash(0) & 1) == 1, due);
    }

    private static void dividing() {
        says("/ cuts towards 0, by 0 it is 0");
        int[][] all = {{7, 2, 3}, {6, 2, 3}, {8, 3, 2}, {1, 2, 0}, {0, 5, 0}, {5, 0, 0}, {0, 0, 0}, {9999, 9999, 1},
            {9998, 9999, 0}};
        for (int[] d : all) {
            worth(d[0] + "/" + d[1], d[2]);
            worth("-" + d[0] + "/" + d[1], -d[2]);
            worth(d[0] + "/-" + d[1], -d[2]);
            worth("-" + d[0] + "/-" + d[1], d[2]);
        }
        worth("5/(3-3)+4", 4);
        worth("5/0*3+1", 1);
        worth("5/quarter", 0);
        worth("0-7/2", -3);
        worth("(0-7)/2", -3);
        says("From the left");
        worth("100-10-1", 89);
        worth("100/10/2", 5);
        worth("100/10*2", 20);
        worth("7*3/2", 10);
        worth("7/2*3", 9);
        worth("1-2+3", 2);
        worth("2+3*4-1", 13);
        worth("-2*3", -6);
        worth("2*-3", -6);
        worth("--5", 5);
        worth("-(5-8)", 3);
    }

    private static void greatest() {
        says("what is above 1000000 (below the same less) is that, at each step");
        worth("1000*1000-9999*100", 100);
        worth("1000*1000+1-9999*100", 100);
        worth("1000*1000-1-9999*100", 99);
        worth("1000*1000+9999-9999*100", 100);
        worth("1001*1000-9999*100", 100);
        worth("1000*999+9999-9999*100", 100);
        worth("1000*999+1000-9999*100", 100);
        worth("1000*999+999-9999*100", 99);
        worth("9999*9999-9999*100", 100);
        worth("9999*9999/9999", 100);
        worth("9999*9999*9999*9999/9999", 100);
        worth("9999*100*9999/9999", 100);
        worth("-1000*1000+9999*100", -100);
        worth("-1000*1000-1+9999*100", -100);
        worth("-1000*1000+1+9999*100", -99);
        worth("-1000*1000-9999+9999*100", -100);
        worth("-1001*1000+9999*100", -100);
        worth("-9999*9999/9999", -100);
        worth("9999*-9999/9999", -100);
        worth("-9999*-9999/9999", 100);
        worth("-(9999*9999)/9999", -100);
        worth("-(-9999*9999)/9999", 100);
        worth("(9999*9999+9999*9999)/9999", 100);
        worth("(-9999*9999-9999*9999)/9999", -100);
        worth("9999*9999*(-9999*9999)/9999", -100);
        so("9999*9999=1000*1000", true);
        so("9999*9999>1000*1000", false);
        so("-9999*9999=-1000*1000", true);
        so("-9999*9999<-1000*1000", false);
    }

    private static void comparing() {
        says("SUM one of < <= > >= = # (unlike) SUM");
        String[] signs = {"<", "<=", ">", ">=", "=", "#"};
        boolean[][] due = {{true, false, false}, {true, true, false}, {false, false, true}, {false, true, true},
            {false, true, false}, {true, false, true}};
        for (int s = 0; s < 6; s++) {
            for (int right = 0; right < 3; right++) {
                so("gravity" + signs[s] + (8 - right), due[s][right]);
                so("-1" + signs[s] + "-" + right, due[s][right]);
                so("not gravity" + signs[s] + (8 - right), !due[s][right]);
            }
        }
        says("fact NUMBER (0 .. 7: that bit of FACTS is 1)");
        for (int facts = 0; facts < 256; facts += 85) {
            VaneCourt x = ruledBy("code 0:fact 0;code 1:fact 1;code 2:fact 6;code 3:fact 7;");
            x.newCase(0, 1, 1, facts);
            due("of " + facts, x.clash(0), facts & 3 | facts >> 4 & 12);
        }
        for (int bit = 0; bit < 8; bit++) {
            for (int asked = 0; asked < 8; asked++) {
                VaneCourt x = ruledBy("code 0:fact " + asked + ";");
                x.newCase(0, 1, 1, 1 << bit);
                due("fact " + asked + " of bit " + bit, x.clash(0) & 1, bit == asked ? 1 : 0);
            }
        }
    }

    private static void mostAreSo() {
        says("more than half of them are so");
        for (int many = 1; many <= 6; many++) {
            for (int set = 0; set < 1 << many; set++) {
                StringBuilder text = new StringBuilder("most(");
                for (int i = 0; i < many; i++) {
                    text.append(i > 0 ? "," : "").append((set >> i & 1) == 1 ? "1=1" : "1=0");
                }
                so(text + ")", 2 * Integer.bitCount(set) > many);
            }
        }
        so("most(1=1 or 1=0,1=1 and 1=0)", false);
        so("most(not 1=0,most(1=1),1=0)", true);
        so("not most(1=1,1=0)", true);
        VaneCourt x = ruledBy("fogs most(hour=2,force>0,quarter=0);blows 5;veers 0;");
        due("in fogs", x.foretold(1, 2), 1);
        x.gust(1, 3);
        due("one of three", x.foretold(1, 2), 0);
        due("two of three", x.foretold(2, 2), 1);
    }

    private static void unless() {
        says("EITHER unless EITHER (the first is so, the other one isn't)");
        for (int first = 0; first < 2; first++) {
            for (int other = 0; other < 2; other++) {
                boolean due = first == 1 && other == 0;
                so("1=" + first + " unless 1=" + other, due);
                so("1=0 or 1=" + first + " unless 1=0 or 1=" + other, due);
                so("1=1 and 1=" + first + " unless 1=1 and 1=" + other, due);
                VaneCourt x = ruledBy("fogs 1=" + first + " unless 1=" + other + ";");
                due("in fogs " + first + other, x.foretold(1, 2), due ? 1 : 0);
                so("1=" + first + " or 1=" + other, first + other > 0);
                so("1=" + first + " and 1=" + other, first + other == 2);
            }
        }
        so("1=1 or 1=0 and 1=0", true);
        so("1=0 and 1=0 or 1=1", true);
        so("not 1=0 and 1=0", false);
        so("not 1=1 or 1=1", true);
    }

    // ---------------------------------------------------------------- laws, and what is so without them

    private static void whoRules() {
        says("THE TEXT (told; at first none) rules; by: (NONE: none): true. False for others");
        VaneCourt x = new VaneCourt();
        due("none told", x.by(0), false);
        due("none", x.by(NONE), true);
        read(x, "blows 9;");
        due("told, but not THE TEXT", x.foretold(1, 1), 7);
        read(x, "blows 8;");
        for (int other : new int[] {2, 3, 4, -2, LOW, HIGH}) {
            due("other " + other, x.by(other), false);
            due("the text", x.about(2), NONE);
        }
        due("the last", x.by(1), true);
        due("the text", x.about(2), 1);
        due("it rules", x.foretold(1, 1), 8);
        due("other", x.by(2), false);
        due("stays", x.about(2), 1);
        due("the first", x.by(0), true);
        due("it rules", x.foretold(1, 1), 9);
        due("none", x.by(NONE), true);
        due("the text", x.about(2), NONE);
        due("none rules", x.foretold(1, 1), 7);
    }

    private static void codeWithout() {
        says("code without: GRAVITY is above the QUARTER and FACT 0 is");
        for (int gravity = 1; gravity <= 9; gravity++) {
            VaneCourt x = new VaneCourt();
            x.newCase(0, gravity, 1, 1);
            x.newCase(0, gravity, 1, 254);
            x.newCase(0, gravity, 1, 255);
            int above = gravity >= 4 ? 15 : (1 << gravity) - 1;
            due("gravity " + gravity, x.clash(0), above);
            due("without fact 0", x.clash(1), 0);
            due("with all facts", x.clash(2), above);
            x.gust(3, 0);
            due("whatever the wind is", x.clash(0), above);
        }
        VaneCourt y = ruledBy("code 1:1=1;code 3:1=0;");
        y.newCase(0, 9, 1, 1);
        y.newCase(0, 9, 1, 0);
        due("those without as without", y.clash(0), 7);
        due("those without as without", y.clash(1), 2);
    }

    private static void veersWithout() {
        says("veers .. without: 1 if D is 0, -1 if D is 1, else 0");
        VaneCourt x = new VaneCourt();
        boolean[] seen = new boolean[10];
        for (int i = 0; i < 60; i++) {
            int draw = x.is(4) % 10;
            int was = x.is(0);
            x.hour(1);
            seen[draw] = true;
            due("by " + draw, x.is(0), (was + (draw == 0 ? 1 : draw == 1 ? 3 : 0)) % 4);
            says("blows .. without: D");
            due("force", x.is(1), draw);
        }
        for (int draw = 0; draw < 10; draw++) {
            due("a draw of " + draw + " came", seen[draw], true);
        }
    }

    private static void lawsThatATextHasNot() {
        says("THE TEXT rules: a law that it hasn't is as without");
        String[] laws = {"veers 3;", "blows 5;", "fogs 1=1;", "sentence 9;", "code 3:1=1;", "delay;", ""};
        for (String law : laws) {
            VaneCourt x = ruledBy(law);
            VaneCourt without = new VaneCourt();
            for (int n = 1; n <= 30; n++) {
                if (!law.startsWith("veers")) {
                    due("quarter by " + law, x.foretold(n, 0), without.foretold(n, 0));
                }
                if (!law.startsWith("blows")) {
                    due("force by " + law, x.foretold(n, 1), without.foretold(n, 1));
                }
                if (!law.startsWith("blows") && !law.startsWith("fogs")) {
                    due("fog by " + law, x.foretold(n, 2), without.foretold(n, 2));
                }
            }
        }
    }

    private static void blows() {
        says("blows: 0 at least, 9 at most");
        int[][] bounds = {{-9999, 0}, {-1, 0}, {0, 0}, {1, 1}, {8, 8}, {9, 9}, {10, 9}, {9999, 9}};
        for (int[] b : bounds) {
            VaneCourt x = ruledBy("blows " + b[0] + ";");
            due("foretold", x.foretold(1, 1), b[1]);
            x.hour(1);
            due("force", x.is(1), b[1]);
        }
    }

    private static void fogsWithout() {
        says("fogs without: FORCE is below 2 and HOUR mod 10 below 3");
        for (int force = 0; force <= 4; force++) {
            VaneCourt x = ruledBy("veers 0;blows " + force + ";");
            for (int hour = 1; hour <= 33; hour++) {
                boolean fog = force < 2 && hour % 10 < 3;
                due("foretold by " + force + " at " + hour, x.foretold(hour, 2), fog ? 1 : 0);
            }
            for (int hour = 1; hour <= 13; hour++) {
                x.hour(1);
                due("by " + force + " at " + hour, x.is(2), force < 2 && hour % 10 < 3 ? 1 : 0);
            }
        }
    }

    private static void sentenceWithout() {
        says("sentence .. without: GRAVITY times HEARD");
        for (int gravity = 1; gravity <= 9; gravity += 4) {
            for (int needs = 1; needs <= 9; needs += 4) {
                VaneCourt x = ruledBy(STILL);
                x.newCase(0, gravity, needs, 1);
                for (int d = 0; d <= 3; d++) {
                    due("sentence", x.ends(0, 0, d, 2), gravity * (needs + d));
                }
            }
        }
    }

    private static void newWindOfLaws() {
        says("FORCE is blows (with the new QUARTER, the elder FORCE); FOG, if fogs is so (with both new)");
        VaneCourt x = ruledBy("veers force;blows quarter*3+force-hour;fogs quarter=3 and force=9 and hour=1;");
        x.gust(0, 3);
        // Veers by the elder force 3: quarter 3; blows 9 + 3 - 1, so 9.
        x.hour(1);
        due("quarter", x.is(0), 3);
        due("force", x.is(1), 9);
        due("fog", x.is(2), 1);
        VaneCourt y = ruledBy("veers quarter+1;blows force+1;fogs force=4 and quarter=1;");
        y.hour(1);
        due("quarter by the elder one", y.is(0), 1);
        due("force by the elder one", y.is(1), 4);
        due("fog by both new", y.is(2), 1);
        says("quarter (in code that one's)");
        VaneCourt z = ruledBy("code 0:quarter=0;code 1:quarter=1;code 2:quarter=2;code 3:quarter=3;sentence quarter*100+hour*10+force;");
        z.newCase(0, 1, 1, 0);
        z.gust(2, 7);
        due("each its own", z.clash(0), 15);
        z.by(0);
        due("the wind's in sentence", z.ends(0, 0, 0, 2), 207);
        VaneCourt v = ruledBy(STILL + "code 0:force=3 and hour=2 and hours=1 and kind=5 and gravity=8;");
        v.newCase(5, 8, 1, 0);
        v.hour(1);
        due("in hour 1", v.clash(0), 0);
        v.hour(1);
        due("in hour 2", v.clash(0), 1);
    }

    // ---------------------------------------------------------------- played

    private static void played() {
        says("PLAYED by a TEXT: its CLAUSES but laws, in their order, as by hand");
        VaneCourt x = new VaneCourt();
        read(x, STILL + "case 1 gravity 9 needs 2;code 0:1=1;call 0;delay;hour 3;appeal 0;gust 2 force 4;call 0;hour 1;withdraw;");
        x.by(0);
        due("NONE: all is done", x.played(0), NONE);
        VaneCourt y = ruledBy(STILL + "code 0:1=1;");
        y.newCase(1, 9, 2, 0);
        y.call(0);
        y.delay();
        y.hour(3);
        y.appeal(0);
        y.gust(2, 4);
        y.call(0);
        y.hour(1);
        y.withdraw();
        alike("as by hand", sitting(x), sitting(y));
        due("steps", x.about(3), y.about(3));
        says("-2 for others");
        for (int other : new int[] {1, 3, 4, -1, -2, LOW, HIGH}) {
            due("other " + other, x.played(other), -2);
        }
        VaneCourt z = new VaneCourt();
        due("none told", z.played(0), -2);
        read(z, "");
        due("an empty text", z.played(0), NONE);
        read(z, "veers 1;blows 2;code 0:1=1;");
        due("laws alone", z.played(1), NONE);
        due("they don't rule by it", z.about(2), NONE);
        due("no step", z.about(3), 0);
        says("case NUMBER gravity NUMBER needs NUMBER ; (KIND; no FACTS)");
        read(z, "case 5 gravity 9 needs 8;case 0 gravity 1 needs 1;");
        due("two cases", z.played(2), NONE);
        int[][] told = {{5, 9, 8, 0, 0, 0, 0}, {0, 1, 1, 0, 0, 0, 0}};
        for (int c = 0; c < 2; c++) {
            for (int what = 0; what < 7; what++) {
                due("of case " + c, z.ofCase(c, what), told[c][what]);
            }
        }
    }

    private static void playedRefused() {
        says("one that can't be ends it: its number among all CLAUSES (from 0); what was done stays");
        String[] refused = {"call 1;", "call 2;", "call 7;", "delay;", "appeal 0;", "appeal 7;", "gust 0 force 3;", "withdraw;"};
        for (String clause : refused) {
            VaneCourt x = ruledBy(STILL);
            x.newCase(0, 1, 9, 0);
            x.newCase(0, 1, 1, 0);
            x.call(1);
            x.hour(1);
            read(x, clause + "hour 5;");
            due("the first: " + clause, x.played(1), 0);
            due("nothing more", x.is(3), 1);
            read(x, "hour 2;veers 1;" + clause + "hour 5;");
            due("the third: " + clause, x.played(2), 2);
            due("what was done stays", x.is(3), 3);
            due("steps", x.about(3), 4);
            read(x, "hour 2;".repeat(22) + "blows 1;" + clause);
            due("the 24th: " + clause, x.played(3), 23);
        }
        VaneCourt y = new VaneCourt();
        read(y, "case 0 gravity 1 needs 1;".repeat(7) + "hour 1;");
        read(y, "case 0 gravity 1 needs 2;case 0 gravity 1 needs 3;hour 1;");
        due("seven cases", y.played(0), NONE);
        due("an eighth, no ninth", y.played(1), 1);
        due("eight", y.about(0), 8);
        due("the eighth", y.ofCase(7, 2), 2);
        due("the hour behind it isn't", y.is(3), 1);
        VaneCourt z = new VaneCourt();
        z.newCase(0, 1, 9, 0);
        read(z, "call 0;delay;delay;delay;delay;");
        due("a fourth delay", z.played(0), 4);
        due("three stay", z.is(8), 3);
        read(z, "gust 1 force 3;gust 1 force 3;");
        due("a gust that is so", z.played(1), 1);
        read(z, "withdraw;withdraw;");
        due("none is in court", z.played(2), 1);
    }

    private static void playedHours() {
        says("(of so many HOURS those that can pass do)");
        VaneCourt x = new VaneCourt();
        read(x, "hour 60;".repeat(24));
        for (int i = 0; i < 6; i++) {
            due("all is done", x.played(0), NONE);
        }
        due("hour", x.is(3), 8640);
        // 1359 are left: 22 times 60, then 39 of 60.
        due("the 23rd can't be", x.played(0), 22);
        due("those that can pass", x.is(3), 9999);
        due("the first can't be", x.played(0), 0);
        due("hour", x.is(3), 9999);
        x.undo();
        read(x, "hour 1;");
        due("the last hour can pass", x.played(1), NONE);
        due("no other", x.played(1), 0);
        x.undo();
        read(x, "hour 2;gust 3 force 7;");
        due("one of two", x.played(2), 0);
        due("it passed", x.is(3), 9999);
        due("what is behind it isn't done", x.is(1) == 7 && x.is(0) == 3, false);
        VaneCourt y = new VaneCourt();
        passTo(y, 9939);
        read(y, "hour 60;gust 0 force 0;gust 0 force 1;");
        due("all 60 that are left", y.played(0), NONE);
        due("hour", y.is(3), 9999);
        due("gusts need no hour", y.is(1), 1);
        VaneCourt z = new VaneCourt();
        passTo(z, 9940);
        z.newCase(0, 1, 1, 0);
        read(z, "delay;hour 60;");
        due("the delay", z.played(0), 0);
        z.call(0);
        due("59 of 60", z.played(0), 1);
        due("hour", z.is(3), 9999);
        due("the case ended in them", z.book(NONE, 0), 1);
    }
}
