/** Rows 3 and 4 of the document's Terms, promises 13 to 15: each sentence that names a boundary, on both sides of it. */
public final class RunsEdgesTest extends Asks {
    /** Given n, it takes 12 * 2^n - 9 STEPS. */
    private static final String STEPPING = "?x+@1-x@1-x0";
    /** Given n, it makes 4 * 2^n BOXES, one at once. */
    private static final String MAKING = "?x+@1-x@1-x+*n1+*n1+*n1*n1";

    private static void comesTo(int kinds, String text, int n, int due) {
        due("run(0, " + n + ", 0) of " + text, one(kinds, text).run(0, n, 0), due);
    }

    private static void wordsAre(RegionStack x, int n, int most, int plain) {
        due("words(0, " + n + ", 0)", x.words(0, n, 0), most);
        due("words(0, " + n + ", 1)", x.words(0, n, 1), plain);
        int bits = plain == 0 ? 0 : Float.floatToIntBits((float) most / (float) plain);
        due("mixed(0, " + n + ")", x.mixed(0, n), bits);
    }

    private static void numbersGiven() {
        sentence("A RUN of a BODY, given n (0 to 999)");
        RegionStack x = program(0, "x", 10, "*x", 1, "nx");
        for (int body = 0; body < 3; body++) {
            for (int n : new int[] {0, 1, 9, 10, 500, 998, 999}) {
                due("run(" + body + ", " + n + ", 0)", x.run(body, n, 0), n);
                due("run(" + body + ", " + n + ", 2)", x.run(body, n, 2), body == 0 ? 0 : 1);
                due("words(" + body + ", " + n + ", 1)", x.words(body, n, 1), body == 0 ? 0 : n < 10 ? 1 : 2);
            }
            for (int n : beyond(0, 999)) {
                due("run(" + body + ", " + n + ", 0)", x.run(body, n, 0), OUTSIDE);
                due("words(" + body + ", " + n + ", 0)", x.words(body, n, 0), OUTSIDE);
                due("mixed(" + body + ", " + n + ")", x.mixed(body, n), OUTSIDE);
            }
        }
    }

    private static void whatIsAsked() {
        sentence("run: UNKNOWN; OUTSIDE: n, what; NO, likewise; STATE: it is not known");
        RegionStack x = program(10, "*x", 0, "@1x", 0, "x");
        for (int what : beyond(0, 7)) {
            due("run(0, 5, " + what + ")", x.run(0, 5, what), OUTSIDE);
            due("run(1, 5, " + what + "), not known", x.run(1, 5, what), OUTSIDE);
        }
        for (int what : beyond(0, 1)) {
            due("words(0, 5, " + what + ")", x.words(0, 5, what), OUTSIDE);
            due("words(1, 5, " + what + "), not known", x.words(1, 5, what), OUTSIDE);
        }
        due("run(1, 1000, 0), not known", x.run(1, 1000, 0), OUTSIDE);
        due("mixed(1, 1000), not known", x.mixed(1, 1000), OUTSIDE);
        due("mixed(1, -1), not known", x.mixed(1, -1), OUTSIDE);
        for (int body : beyond(0, 2)) {
            due("run(" + body + ", 5, 0)", x.run(body, 5, 0), UNKNOWN);
            due("run(" + body + ", 1000, 8)", x.run(body, 1000, 8), UNKNOWN);
            due("words(" + body + ", 5, 0)", x.words(body, 5, 0), UNKNOWN);
            due("words(" + body + ", -1, 2)", x.words(body, -1, 2), UNKNOWN);
            due("mixed(" + body + ", 5)", x.mixed(body, 5), UNKNOWN);
            due("mixed(" + body + ", 1000)", x.mixed(body, 1000), UNKNOWN);
        }
        x.wipe(2);
        for (int body = 0; body < 2; body++) {
            due("run(" + body + ", 5, 0), not WELL", x.run(body, 5, 0), NO);
            due("run(" + body + ", 5, 7), not WELL", x.run(body, 5, 7), NO);
            due("words(" + body + ", 5, 0), not WELL", x.words(body, 5, 0), NO);
            due("words(" + body + ", 5, 1), not WELL", x.words(body, 5, 1), NO);
            due("mixed(" + body + ", 5), not WELL", x.mixed(body, 5), NO);
            due("run(" + body + ", 5, 8), not WELL", x.run(body, 5, 8), OUTSIDE);
            due("words(" + body + ", 5, 2), not WELL", x.words(body, 5, 2), OUTSIDE);
            due("mixed(" + body + ", 1000), not WELL", x.mixed(body, 1000), OUTSIDE);
        }
        due("run(3, 5, 0), not WELL", x.run(3, 5, 0), UNKNOWN);
    }

    private static void whatItComesTo() {
        sentence("- and a TERM (one less; of 0: 0)");
        comesTo(0, "-x", 0, 0);
        comesTo(0, "-x", 1, 0);
        comesTo(0, "-x", 2, 1);
        comesTo(0, "-x", 999, 998);
        comesTo(0, "---x", 2, 0);
        comesTo(0, "-+xx", 500, 0);
        sentence("+ and two TERMS (their sum, left over by 1000)");
        comesTo(0, "+x0", 999, 999);
        comesTo(0, "+x1", 998, 999);
        comesTo(0, "+x1", 999, 0);
        comesTo(0, "+x2", 999, 1);
        comesTo(0, "+xx", 499, 998);
        comesTo(0, "+xx", 500, 0);
        comesTo(0, "+xx", 999, 998);
        comesTo(0, "+x+xx", 999, 997);
        sentence("? and three TERMS (CHOICE: the second, if the first is not 0, else the third)");
        comesTo(0, "?x12", 0, 2);
        comesTo(0, "?x12", 1, 1);
        comesTo(0, "?x12", 999, 1);
        comesTo(0, "?+xx12", 500, 2);
        comesTo(0, "*?xn1n2", 0, 2);
        comesTo(0, "*?xn1n2", 1, 1);
        sentence("n and a TERM (NEW: a BOX that holds it); * and a TERM (LOOK: what the BOX holds)");
        comesTo(0, "*nx", 0, 0);
        comesTo(0, "*nx", 999, 999);
        comesTo(1, "nx", 999, 999);
        comesTo(11, "x", 0, 0);
        comesTo(10, "*x", 999, 999);
        comesTo(11, "n-*x", 0, 0);
        sentence("a figure 0 to 9");
        for (char figure = '0'; figure <= '9'; figure++) {
            comesTo(0, "" + figure, 55, figure - '0');
        }
        sentence("LET: the letter is the first within the second");
        for (char letter = 'a'; letter <= 'd'; letter++) {
            comesTo(0, "l" + letter + "+x1+" + letter + letter, 7, 16);
        }
        comesTo(0, "la1+la2aa", 0, 3);
        comesTo(0, "la1la+a1+aa", 0, 4);
        comesTo(0, "la1lb2lc3ld4+a+b+cd", 0, 10);
        comesTo(0, "lan7lbn8+*a*b", 0, 15);
        sentence("CALL: what that BODY gives, given that");
        RegionStack x = program(0, "+@1x@2x", 0, "+x1", 0, "-x");
        due("run(0, 5, 0)", x.run(0, 5, 0), 10);
        due("run(0, 0, 0)", x.run(0, 0, 0), 1);
        due("run(1, 999, 0)", x.run(1, 999, 0), 0);
        sentence("a letter of the caller is not that of the BODY called");
        x = program(0, "la1+@1aa", 0, "la+x5a", 0, "x");
        due("run(0, 0, 0)", x.run(0, 0, 0), 7);
        x = program(0, "?xlax+@0-xa0", 0, "x", 0, "x");
        due("run(0, 4, 0)", x.run(0, 4, 0), 10);
        sentence("x is what the BODY is given, behind a CALL of it, too");
        comesTo(0, "?x+@0-xx0", 4, 10);
        comesTo(10, "?*x+@0n-*x*x0", 4, 10);
    }

    private static void regionsOfTheStart() {
        sentence("if it is given a BOX, a REGION is opened for P, and a BOX that holds n put into it");
        runIs(one(0, "7"), 3, 7, 1, 0, 0, 0, 0, 0, 0);
        runIs(one(10, "7"), 3, 7, 1, 1, 1, 1, 1, 0, 0);
        runIs(one(10, "7"), 10, 7, 1, 1, 1, 1, 1, 1, 0);
        sentence("if it gives a BOX, and P is not R, then a REGION for R");
        runIs(one(1, "nx"), 3, 3, 2, 1, 1, 1, 1, 0, 0);
        runIs(one(11, "n*x"), 3, 3, 3, 2, 2, 2, 2, 0, 0);
        runIs(one(11, "n1"), 10, 1, 2, 2, 2, 2, 2, 1, 0);
        runIs(one(11, "x"), 3, 3, 1, 1, 1, 1, 1, 0, 0);
        runIs(one(11, "?*xxn1"), 0, 1, 5, 2, 2, 1, 1, 0, 0);
    }

    private static void steps() {
        sentence("each evaluation of a PART is a STEP");
        String[] texts = {"7", "x", "-7", "+12", "?123", "?023", "la12", "la1a", "la1+aa", "*n1", "@11", "@1@11", "@1+12", "---1"};
        int[] due = {1, 1, 2, 3, 3, 3, 3, 3, 5, 3, 3, 5, 5, 4};
        for (int i = 0; i < texts.length; i++) {
            due("run(0, 0, 1) of " + texts[i], one(0, texts[i]).run(0, 0, 1), due[i]);
        }
        due("CALLS of @1@11", one(0, "@1@11").run(0, 0, 7), 2);
        due("CALLS of a CHOICE", one(0, "?@10@1@11@11").run(0, 0, 7), 2);
    }

    private static void fromLeftToRight() {
        sentence("The TERM is evaluated, from left to right");
        due("a BOX stays, then one goes", one(10, "+*?0xn9*n1").run(0, 0, 3), 3);
        due("a BOX goes, then one stays", one(10, "+*n1*?0xn9").run(0, 0, 3), 2);
        due("of a CHOICE the first is first", one(10, "?*?0xn9*n1*n1").run(0, 0, 3), 3);
        due("of a LET the first is first", one(10, "la*?0xn9*n1").run(0, 0, 3), 3);
        due("of a LET the second is last", one(10, "la*n1*?0xn9").run(0, 0, 3), 2);
        due("a CALL evaluates the TERM in it first",
            program(10, "@1*?0xn9", 0, "*n1", 0, "x").run(0, 0, 3), 3);
        due("what is given goes ahead of the TERM of that BODY",
            program(0, "@1*n1", 0, "*n1", 0, "x").run(0, 0, 3), 1);
    }

    private static void regionsOpenAndClose() {
        sentence("ahead of it the OWN REGIONS of which that PART is the HOME are opened, behind it they are closed");
        runIs(one(0, "+*n1*n2"), 0, 3, 7, 2, 1, 1, 2, 0, 0);
        runIs(one(0, "*n*n1"), 0, 1, 5, 2, 1, 2, 2, 0, 0);
        runIs(one(0, "lan12"), 0, 2, 4, 1, 1, 1, 1, 0, 0);
        runIs(one(0, "lan1lbn22"), 0, 2, 7, 2, 1, 1, 2, 0, 0);
        runIs(one(0, "lan1lbn2+*a*b"), 0, 3, 11, 2, 2, 2, 2, 0, 0);
        runIs(one(0, "lan1lbn2lcn3*c"), 0, 3, 11, 3, 1, 1, 3, 0, 0);
        runIs(program(0, "la@1n12", 11, "n*x", 0, "x"), 0, 2, 8, 2, 2, 2, 2, 0, 1);
        runIs(program(0, "*@1n1", 11, "n*x", 0, "x"), 0, 1, 7, 2, 2, 2, 2, 0, 1);
        sentence("a PART that is not evaluated opens nothing");
        runIs(one(0, "?x*n12"), 0, 2, 3, 0, 0, 0, 0, 0, 0);
        runIs(one(0, "?x*n12"), 1, 1, 5, 1, 1, 1, 1, 0, 0);
        sentence("a REGION is opened anew with each evaluation of its HOME");
        runIs(one(0, "?x+*nx@0-x0"), 3, 6, 30, 3, 1, 1, 3, 0, 3);
        runIs(one(0, "lanx?*a@0-*a0"), 3, 0, 37, 4, 4, 4, 4, 0, 3);
        sentence("NEW puts a BOX into the REGION that is open for that where it is, behind a CALL of its BODY, too");
        RegionStack again = one(0, "lanx?x+@0-x*?0an90");
        runIs(again, 2, 18, 34, 5, 3, 3, 3, 0, 2);
        wordsAre(again, 2, 3, 5);
        // Put behind the last CALL into 12's own REGION, it is of two WORDS; ahead of it, 12 down to 0 are there.
        runIs(again, 12, 108, 12 * 14 + 6, 25, 13, 13, 13, 3, 12);
        wordsAre(again, 12, 16, 28);
        again = one(0, "lanx?-x+@0-x*?0an90");
        runIs(again, 11, 90, 10 * 15 + 7, 21, 11, 11, 11, 2, 10);
        sentence("BOXES that are put into a REGION of the caller stay when the CALL is over");
        RegionStack x = program(0, "lan1+@1a+@1a*a", 10, "la?0xn12", 0, "x");
        due("run(0, 0, 3)", x.run(0, 0, 3), 3);
        due("run(0, 0, 5)", x.run(0, 0, 5), 1);
        sentence("BOXES of a BODY's own are gone when the CALL is over");
        runIs(program(0, "+@1x@1x", 0, "*nx", 0, "x"), 4, 8, 11, 2, 1, 1, 2, 0, 2);
    }

    private static void whereACallPuts() {
        sentence("to which the REGION where the TERM in it is is P, and that where the CALL is is R");
        wordsAre(program(0, "*@1n1", 11, "n+9*x", 0, "x"), 0, 3, 3);
        wordsAre(program(0, "*@1n+91", 11, "n-*x", 0, "x"), 0, 3, 3);
        RegionStack x = program(0, "lan1+@1a*a", 10, "la?0xn+9*x*a", 0, "x");
        due("run(0, 0, 0)", x.run(0, 0, 0), 11);
        wordsAre(x, 0, 4, 3);
        x = program(0, "lan1lbn2+@1a+*a*b", 10, "la?0xn+9*x*a", 0, "x");
        wordsAre(x, 0, 5, 4);
        sentence("a CALL of a CALL takes along where its BOX came from");
        x = program(0, "lan1+@1a*a", 10, "@2x", 10, "la?0xn+9*x*a");
        due("run(0, 0, 0)", x.run(0, 0, 0), 11);
        wordsAre(x, 0, 4, 3);
        sentence("and where its answer goes");
        x = program(0, "lan1lb@1x+*a*b", 1, "@2x", 1, "n+9x");
        due("run(0, 1, 0)", x.run(0, 1, 0), 11);
        due("run(0, 1, 5)", x.run(0, 1, 5), 2);
        due("run(0, 1, 6)", x.run(0, 1, 6), 1);
        wordsAre(x, 1, 3, 3);
        sentence("anew each time");
        x = program(0, "+*@1x+*@1-x*@1--x", 1, "nx", 0, "x");
        due("run(0, 11, 0)", x.run(0, 11, 0), 30);
        due("run(0, 11, 4)", x.run(0, 11, 4), 1);
        due("run(0, 11, 5)", x.run(0, 11, 5), 3);
        due("run(0, 11, 6)", x.run(0, 11, 6), 2);
        wordsAre(x, 11, 2, 5);
        x = program(10, "?*x+*x@0n-*x0", 0, "x", 0, "x");
        due("run(0, 4, 0)", x.run(0, 4, 0), 10);
        due("run(0, 4, 3)", x.run(0, 4, 3), 5);
        due("run(0, 4, 4)", x.run(0, 4, 4), 5);
        sentence("a CALL of a PASS: P and R are one");
        x = program(0, "*@1n1", 11, "?*xn+9*xx", 0, "x");
        due("run(0, 0, 0)", x.run(0, 0, 0), 10);
        due("run(0, 0, 5)", x.run(0, 0, 5), 1);
        wordsAre(x, 0, 4, 3);
    }

    private static void at3000Steps() {
        sentence("A RUN is not known, if there are more than 3000 STEPS");
        String head = "+@17+@16+@15+@14+@13+@12";
        RegionStack x = program(0, head + "-----------1", 0, STEPPING, 0, "x");
        due("run(0, 0, 1)", x.run(0, 0, 1), 3000);
        due("run(0, 0, 0)", x.run(0, 0, 0), 0);
        due("run(0, 0, 7)", x.run(0, 0, 7), 498);
        wordsAre(x, 0, 0, 0);
        text(x, 0, head + "------------1");
        runIsNotKnown(x, 0);
        text(x, 0, head + "----------1");
        due("run(0, 0, 1)", x.run(0, 0, 1), 2999);
        text(x, 0, "@19");
        runIsNotKnown(x, 0);
        sentence("more than 3000 STEPS, whichever PART is the number 3001");
        for (String last : new String[] {"1", "x", "-1", "+11", "?111", "?011", "la1a", "*n1", "@11"}) {
            text(x, 0, head + "------------" + last);
            due("fault(0) with " + last, x.fault(0), NONE);
            runIsNotKnown(x, 0);
        }
        String[] lasts = {"-1", "*nx", "@20"};
        int[] lastSteps = {2, 3, 3};
        for (int i = 0; i < lasts.length; i++) {
            text(x, 0, head + "-----------" + lasts[i]);
            runIsNotKnown(x, 0);
            text(x, 0, head + "-------" + lasts[i]);
            due("run(0, 0, 1) with " + lasts[i], x.run(0, 0, 1), 2995 + lastSteps[i]);
        }
    }

    private static void at300Boxes() {
        sentence("more than 300 BOXES made");
        RegionStack x = program(0, "+@16+@13+@11+*n1+*n1*n1", 0, MAKING, 0, "x");
        due("run(0, 0, 2)", x.run(0, 0, 2), 299);
        text(x, 0, "+@16+@13+@11@10");
        due("run(0, 0, 2)", x.run(0, 0, 2), 300);
        due("run(0, 0, 3)", x.run(0, 0, 3), 1);
        due("run(0, 0, 5)", x.run(0, 0, 5), 300);
        wordsAre(x, 0, 1, 300);
        text(x, 0, "+@16+@13+@11+*n1@10");
        runIsNotKnown(x, 0);
        sentence("more than 300 BOXES made, the one put into P among them");
        x.body(0, 1, 0);
        text(x, 0, "+@16+@13+@11+*n1+*n1*n1");
        due("run(0, 0, 2)", x.run(0, 0, 2), 300);
        text(x, 0, "+@16+@13+@11@10");
        runIsNotKnown(x, 0);
        sentence("300 BOXES at once, of two WORDS each");
        // Body 2 puts 7 BOXES into P, 1 puts 57, and 0 puts 299.
        x = program(10, "+@1x".repeat(5) + "+@2x@2x", 10, "+@2x".repeat(8) + "*?0xn1", 10, "*?0xn".repeat(7) + "1");
        due("run(0, 10, 2)", x.run(0, 10, 2), 300);
        due("run(0, 10, 3)", x.run(0, 10, 3), 300);
        due("run(0, 10, 4)", x.run(0, 10, 4), 1);
        wordsAre(x, 9, 300, 300);
        wordsAre(x, 10, 600, 301);
        text(x, 0, "+@1x".repeat(5) + "+@2x+@2x*?0xn1");
        runIsNotKnown(x, 10);
    }

    private static void at12Calls() {
        sentence("more than 12 CALLS in one another");
        RegionStack x = one(0, "?x+1@0-x0");
        due("run(0, 11, 0)", x.run(0, 11, 0), 11);
        due("run(0, 12, 0)", x.run(0, 12, 0), 12);
        due("run(0, 12, 7)", x.run(0, 12, 7), 12);
        runIsNotKnown(x, 13);
        runIsNotKnown(x, 999);
        due("run(0, 12, 0) behind one that is not known", x.run(0, 12, 0), 12);
        runIsNotKnown(one(0, "@0x"), 0);
        sentence("each in the TERM of the BODY that the one ahead of it calls");
        x = program(0, "?x@1-x0", 0, "?x@2-x0", 0, "?x@0-x0");
        due("run(0, 12, 7)", x.run(0, 12, 7), 12);
        runIsNotKnown(x, 13);
        sentence("one in what it is given is not in it");
        x = one(0, "@1".repeat(19) + "x");
        due("run(0, 5, 0)", x.run(0, 5, 0), 5);
        due("run(0, 5, 7)", x.run(0, 5, 7), 19);
        x = one(0, "?x@0@1-x0");
        due("run(0, 12, 7)", x.run(0, 12, 7), 24);
        runIsNotKnown(x, 13);
        x = one(0, "?x@0@1@1@1-x0");
        due("run(0, 12, 7)", x.run(0, 12, 7), 48);
        x = program(0, "?x@0-x@1x", 0, "x", 0, "x");
        due("run(0, 11, 7)", x.run(0, 11, 7), 12);
        runIsNotKnown(x, 12);
        sentence("CALLS that are over are not ahead of the next one");
        x = one(0, "?x+@0-x@0-x1");
        due("run(0, 6, 7)", x.run(0, 6, 7), 126);
        due("run(0, 6, 0)", x.run(0, 6, 0), 64);
        due("run(0, 7, 7)", x.run(0, 7, 7), 254);
        sentence("twelve CALLS in one another, each deep in its TERM");
        x = one(0, "?x" + "-".repeat(30) + "@0-xx");
        due("run(0, 12, 1)", x.run(0, 12, 1), 12 * 35 + 3);
        // 16 REGIONS are open ahead of each CALL, and 9 in the last one; those of the TERM in a CALL are closed.
        x = one(0, "*n".repeat(9) + "?x" + "*n".repeat(7) + "@0-xx");
        runIs(x, 12, 0, 12 * 37 + 21, 201, 1, 201, 201, 0, 12);
        wordsAre(x, 12, 1, 201);
        x = one(0, "lanxlbnxlcnx?x+@0-x+*a+*b*c0");
        runIs(x, 12, 3 * 78, 12 * 23 + 12, 39, 39, 39, 39, 9, 12);
        wordsAre(x, 12, 30 + 18, 30 + 18);
        x = program(0, "?x@0-x" + "*n".repeat(16) + "x", 0, "x", 0, "x");
        due("run(0, 12, 4)", x.run(0, 12, 4), 16);
    }

    private static void tightAndSpread() {
        sentence("A REGION is TIGHT, till a BOX that holds 10 or more is put into it; then it is SPREAD");
        RegionStack x = one(0, "*nx");
        int[] holds = {0, 1, 8, 9, 10, 11, 99, 100, 998, 999};
        for (int n : holds) {
            due("run(0, " + n + ", 6)", x.run(0, n, 6), n < 10 ? 0 : 1);
            wordsAre(x, n, n < 10 ? 1 : 2, n < 10 ? 1 : 2);
        }
        x = one(10, "7");
        for (int n : holds) {
            due("run(0, " + n + ", 6)", x.run(0, n, 6), n < 10 ? 0 : 1);
            wordsAre(x, n, n < 10 ? 1 : 2, n < 10 ? 1 : 2);
        }
        sentence("Each BOX in it is a WORD, if it is TIGHT, two, if it is SPREAD");
        x = one(10, "la?0xn+*x9*a");
        wordsAre(x, 0, 2, 2);
        wordsAre(x, 1, 4, 3);
        wordsAre(x, 9, 4, 3);
        wordsAre(x, 10, 4, 4);
        x = one(10, "la?0xn-*x*a");
        wordsAre(x, 9, 2, 2);
        wordsAre(x, 10, 4, 3);
        wordsAre(x, 11, 4, 4);
        sentence("how many became SPREAD (6)");
        due("two BOXES of one REGION", x.run(0, 11, 6), 1);
        x = one(0, "lanxlbnx+*a*b");
        due("two REGIONS", x.run(0, 10, 6), 2);
        due("no REGION", x.run(0, 9, 6), 0);
        x = one(0, "+*nx*nx");
        due("two REGIONS, one behind the other", x.run(0, 10, 6), 2);
        sentence("one that is SPREAD leaves the others as they are");
        x = one(0, "lanxlbn1lcn2+*a+*b*c");
        wordsAre(x, 9, 3, 3);
        wordsAre(x, 10, 4, 4);
        sentence("a REGION that is opened behind it is TIGHT");
        x = one(0, "+*nxlan1lbn1lcn1+*a+*b*c");
        wordsAre(x, 10, 3, 5);
        due("run(0, 10, 6)", x.run(0, 10, 6), 1);
        sentence("the WORDS of a SPREAD REGION go with it");
        x = one(0, "+*nx+*nx*nx");
        wordsAre(x, 10, 2, 6);
        x = one(0, "+la?0nxn+x1*a*n1");
        wordsAre(x, 10, 2, 3);
    }

    private static void plainRun() {
        sentence("In the PLAIN run no BOX ever goes, and each is a WORD, if it holds less than 10, else two");
        wordsAre(one(0, "+*n9+*n8*n7"), 0, 1, 3);
        wordsAre(one(0, "+*nx+*n-x*n--x"), 11, 2, 5);
        wordsAre(one(0, "+*nx+*n-x*n--x"), 12, 2, 6);
        wordsAre(one(0, "+*nx+*n-x*n--x"), 9, 1, 3);
        wordsAre(one(0, "7"), 0, 0, 0);
        wordsAre(one(11, "n*x"), 9, 2, 2);
        wordsAre(one(11, "n*x"), 10, 4, 4);
        wordsAre(one(11, "n-*x"), 10, 3, 3);
    }

    private static void mixedIsTheNearestSingle() {
        sentence("MIXED: how many WORDS at once at the most, by how many in the PLAIN run, as the nearest single number");
        // Given n, n + 1 BOXES, one at once: 1 by n + 1.
        RegionStack x = one(0, "?x+*n1@0-x*n1");
        int[] bits = {0x3F800000, 0x3F000000, 0x3EAAAAAB, 0x3E800000, 0x3E4CCCCD, 0x3E2AAAAB, 0x3E124925,
            0x3E000000, 0x3DE38E39, 0x3DCCCCCD, 0x3DBA2E8C, 0x3DAAAAAB, 0x3D9D89D9};
        for (int n = 0; n < bits.length; n++) {
            due("mixed(0, " + n + ")", x.mixed(0, n), bits[n]);
            wordsAre(x, n, 1, n + 1);
        }
        // n + 1 at once, of 3 * n + 1: some are rounded up, some down.
        x = one(0, "?x+*n1+*n1lan1+@0-x*a*n1");
        for (int n = 0; n <= 12; n++) {
            wordsAre(x, n, n + 1, 3 * n + 1);
        }
        // n + 1 and one more at once, of 2 * n + 2
        x = one(0, "lan1?x+@0-x+*a*n2*n1");
        for (int n = 0; n <= 12; n++) {
            wordsAre(x, n, n + 2, 2 * n + 2);
        }
        due("2 by 3", one(0, "+lan1lbn2+*a*b*n3").mixed(0, 0), 0x3F2AAAAB);
        due("3 by 4", one(0, "+lan1lbn2+*n1+*a*b*n3").mixed(0, 0), 0x3F400000);
        due("4 by 3", one(10, "la?0xn+*x9*a").mixed(0, 1), 0x3FAAAAAB);
        due("6 by 4", one(10, "la?0xn1lb?0xn2*x").mixed(0, 10), 0x3FC00000);
        due("1 by 300", program(0, "+@16+@13+@11@10", 0, MAKING, 0, "x").mixed(0, 0), 0x3B5A740E);
        sentence("MIXED: 0, if there is no BOX");
        due("mixed(0, 0) of x", one(0, "x").mixed(0, 0), 0);
        due("mixed(0, 999) of ?0*n12", one(0, "?0*n12").mixed(0, 999), 0);
        due("mixed(0, 0) of ?1*n12", one(0, "?1*n12").mixed(0, 0), 0x3F800000);
        due("mixed(0, 0) of a BOX alone that is given", one(10, "7").mixed(0, 0), 0x3F800000);
    }

    private static void runsBehindOneAnother() {
        sentence("a RUN knows nothing of the one ahead of it");
        RegionStack x = program(10, "+*x*n1", 0, "@1x", 0, "x");
        for (int round = 0; round < 3; round++) {
            runIs(x, 12, 13, 6, 2, 2, 2, 2, 1, 0);
            wordsAre(x, 12, 3, 3);
            due("run(1, 12, 0)", x.run(1, 12, 0), STATE);
            runIs(x, 3, 4, 6, 2, 2, 2, 2, 0, 0);
            wordsAre(x, 3, 2, 2);
            due("run(2, 3, 0)", x.run(2, 3, 0), 3);
            due("run(2, 3, 2)", x.run(2, 3, 2), 0);
        }
        sentence("a RUN behind one of another BODY that is given the same");
        x = program(10, "+*x*n1", 0, "+x1", 1, "nx");
        for (int round = 0; round < 2; round++) {
            for (int n = 11; n < 14; n++) {
                due("run(0, " + n + ", 0)", x.run(0, n, 0), n + 1);
                due("run(1, " + n + ", 0)", x.run(1, n, 0), n + 1);
                due("run(2, " + n + ", 0)", x.run(2, n, 0), n);
                due("run(1, " + n + ", 2)", x.run(1, n, 2), 0);
                due("run(0, " + n + ", 2)", x.run(0, n, 2), 2);
                due("words(2, " + n + ", 0)", x.words(2, n, 0), 2);
                due("words(1, " + n + ", 0)", x.words(1, n, 0), 0);
            }
        }
        sentence("a RUN that is less than the one ahead of it");
        x = program(11, "n*x", 0, "lanxlbn2+*a*b", 0, "x");
        text(x, 0, "n+*n1+*n2*x");
        runIs(x, 12, 15, 11, 4, 2, 3, 4, 2, 0);
        due("run(1, 12, 0)", x.run(1, 12, 0), 14);
        for (int what = 2; what <= 7; what++) {
            due("run(2, 12, " + what + ")", x.run(2, 12, what), 0);
        }
        due("words(2, 12, 0)", x.words(2, 12, 0), 0);
        due("words(2, 12, 1)", x.words(2, 12, 1), 0);
        due("mixed(2, 12)", x.mixed(2, 12), 0);
        sentence("a RUN behind a change");
        x = program(10, "+*x*n1", 0, "@1x", 0, "x");
        text(x, 0, "+*x*n2");
        due("run(0, 3, 0)", x.run(0, 3, 0), 5);
        text(x, 1, "+x1");
        due("run(1, 12, 0)", x.run(1, 12, 0), 13);
        x.body(0, 0, 0);
        due("run(0, 3, 0)", x.run(0, 3, 0), NO);
        text(x, 0, "@1x");
        due("run(0, 3, 0)", x.run(0, 3, 0), 4);
        text(x, 1, "x");
        due("run(0, 3, 0)", x.run(0, 3, 0), 3);
        x.wipe(2);
        due("run(0, 3, 0)", x.run(0, 3, 0), NO);
        due("words(0, 3, 0)", x.words(0, 3, 0), NO);
        due("mixed(0, 3)", x.mixed(0, 3), NO);
    }

    public static void main(String[] args) {
        numbersGiven();
        whatIsAsked();
        whatItComesTo();
        regionsOfTheStart();
        steps();
        fromLeftToRight();
        regionsOpenAndClose();
        whereACallPuts();
        at3000Steps();
        at300Boxes();
        at12Calls();
        tightAndSpread();
        plainRun();
        mixedIsTheNearestSingle();
        runsBehindOneAnother();
        end();
    }
}
