/** Row 2 of the document's Terms, promises 9 to 12: each sentence that names a boundary, on both sides of it. */
public final class RegionsEdgesTest extends Asks {
    /** Bodies to be called: what they do to the region of their x, and to that of what they give. */
    private static final String PUTS_INTO_P = "la?0xn12", LOOKS_INTO_P = "*x", PUTS_INTO_R = "nx", LOOKS_INTO_R = "lb@1x?*bbb";

    private static void regionsOf(int kinds, String text, String due) {
        regionsOf(kinds, text, 0, "x", due);
    }

    /** Body 1 is called. What gives a NUMBER is tried in a NEW, too, which is in R. */
    private static void regionsOf(int kinds, String text, int calledKinds, String called, String due) {
        regionsAre(program(kinds, text, calledKinds, called, 0, "x"), 0, due);
        if (kinds % 10 == 0) {
            regionsAre(program(kinds + 1, "n" + text, calledKinds, called, 0, "x"), 0, "1" + due);
        }
    }

    private static void tellsAre(RegionStack x, int body, int pass, int effect, int own) {
        due("tells(" + body + ", 0)", x.tells(body, 0), pass);
        due("tells(" + body + ", 1)", x.tells(body, 1), effect);
        due("tells(" + body + ", 2)", x.tells(body, 2), own);
    }

    private static void effectIs(int kinds, String text, int effect) {
        due("tells(0, 1) of " + text, one(kinds, text).tells(0, 1), effect);
    }

    private static void effectIs(int kinds, String text, int calledKinds, String called, int effect) {
        RegionStack x = program(kinds, text, calledKinds, called, 0, "x");
        due("tells(0, 1) of " + text + ", calling " + called, x.tells(0, 1), effect);
    }

    private static void touchesAre(RegionStack x, int region, int touch, int put, int look) {
        due("touches(0, " + region + ", 0)", x.touches(0, region, 0), touch);
        due("touches(0, " + region + ", 1)", x.touches(0, region, 1), put);
        due("touches(0, " + region + ", 2)", x.touches(0, region, 2), look);
    }

    private static void homesAre(RegionStack x, int... due) {
        for (int region : new int[] {Integer.MIN_VALUE, -1, 0, 1, due.length + 2, due.length + 3, 99, 100, Integer.MAX_VALUE}) {
            due("home(0, " + region + ")", x.home(0, region), OUTSIDE);
        }
        for (int i = 0; i < due.length; i++) {
            due("home(0, " + (2 + i) + ")", x.home(0, 2 + i), due[i]);
        }
        due("OWN REGIONS", x.tells(0, 2), due.length);
    }

    private static void homesOf(String text, int... due) {
        homesAre(program(0, text, 10, "*x", 11, "n*x"), due);
    }

    private static void whoIsInOneRegion() {
        sentence("x is in P each time");
        regionsOf(10, "+*x*x", "..0.0");
        regionsOf(11, "laxn+*x*a", "1.01..0.0");
        regionsOf(0, "+xx", "...");
        sentence("a letter where the first TERM of its LET is");
        regionsOf(0, "lan1*a", "..2..2");
        regionsOf(0, "+lan1*alan2*a", "...2..2..3..3");
        regionsOf(0, "lan1lan2*a", "..2...3..3");
        regionsOf(10, "lax+*a*x", "..0..0.0");
        sentence("a LET where the second is");
        regionsOf(0, "*lan1a", ".2.2.2");
        regionsOf(0, "*lan1n2", ".2.3.2.");
        regionsOf(0, "*la1n2", ".2..2.");
        sentence("a CHOICE, and its second and its third TERM, are in one");
        regionsOf(0, "*?1n2n3", ".2.2.2.");
        regionsOf(0, "?1*n2*n3", "...2..3.");
        regionsOf(0, "?*n1*n2*n3", "..2..3..4.");
        regionsOf(0, "lan1lbn2+*?1ab*b", "..2...2...2.22.2");
        regionsOf(0, "lan1lbn2+*?1aa*b", "..2...3...2.22.3");
        sentence("a CALL, if that BODY is a PASS, is where the TERM in it is");
        regionsOf(0, "*@1n1", 11, "x", ".2.2.");
        regionsOf(0, "*@1n1", 11, "n*x", ".2.3.");
        regionsOf(0, "*@1*n1", 1, "nx", ".2..3.");
        regionsOf(0, "+*@1n1*@1n2", 11, "x", "..2.2..3.3.");
        regionsOf(10, "*@1x", 11, "x", ".0.0");
        regionsOf(10, "*@1x", 11, "n*x", ".2.0");
        sentence("the whole TERM is in R");
        regionsOf(1, "n1", "1.");
        regionsOf(1, "?1n2n3", "1.1.1.");
        regionsOf(1, "lan1a", "1.1.1");
        regionsOf(1, "lan1n2", "1.2.1.");
        regionsOf(11, "n*x", "1.0");
        regionsOf(1, "@1x", 1, "nx", "1..");
        regionsOf(0, "7", ".");
        sentence("else two PARTS are in one REGION only if they are so by these");
        regionsOf(0, "+*n1*n2", "..2..3.");
        regionsOf(0, "*n*n1", ".2.3.");
        regionsOf(0, "+*@1x*@1x", 1, "nx", "..2...3..");
        regionsOf(0, "*@1@1n1", 11, "n*x", ".2.3.4.");
    }

    private static void passIs(int kinds, String text, int pass) {
        RegionStack x = program(kinds, text, 11, "x", 11, "n*x");
        due("tells(0, 0) of " + text, x.tells(0, 0), pass);
    }

    private static void whichBodyIsAPass() {
        sentence("A BODY is a PASS, if it is given a BOX, and gives a BOX, and P and R are one");
        passIs(11, "x", 1);
        passIs(11, "n*x", 0);
        passIs(11, "n1", 0);
        passIs(10, "*x", 0);
        passIs(10, "7", 0);
        passIs(1, "nx", 0);
        passIs(0, "x", 0);
        passIs(11, "?1xn2", 1);
        passIs(11, "?1n2x", 1);
        passIs(11, "?*xn1n2", 0);
        passIs(11, "laxa", 1);
        passIs(11, "lan1x", 1);
        passIs(11, "laxn1", 0);
        passIs(11, "la?0xn1a", 1);
        passIs(11, "la?0xn1n2", 0);
        passIs(11, "lan1lb?0xaa", 1);
        passIs(11, "@1x", 1);
        passIs(11, "@2x", 0);
        passIs(11, "@1n1", 0);
        passIs(11, "@1@1x", 1);
        passIs(11, "@1@2x", 0);
        passIs(11, "@2@1x", 0);
    }

    private static void passesAre(RegionStack x, int pass0, int pass1, int pass2) {
        due("tells(0, 0)", x.tells(0, 0), pass0);
        due("tells(1, 0)", x.tells(1, 0), pass1);
        due("tells(2, 0)", x.tells(2, 0), pass2);
    }

    private static void asFewPassesAsCanBe() {
        sentence("as few BODIES a PASS");
        passIs(11, "@0x", 0);
        passIs(11, "?*x@0xx", 1);
        passIs(11, "?*x@0xn1", 0);
        passesAre(program(11, "@1x", 11, "@0x", 11, "x"), 0, 0, 1);
        passesAre(program(11, "?*x@1xn1", 11, "?*x@0xn1", 0, "x"), 0, 0, 0);
        passesAre(program(11, "?*x@1xn1", 11, "?*x@0xx", 0, "x"), 1, 1, 0);
        passesAre(program(11, "@1x", 11, "@2x", 11, "x"), 1, 1, 1);
        passesAre(program(11, "x", 11, "@0x", 11, "@1x"), 1, 1, 1);
        passesAre(program(11, "@2x", 11, "x", 11, "@1x"), 1, 1, 1);
        passesAre(program(11, "@1x", 11, "@2x", 11, "@0x"), 0, 0, 0);
        passesAre(program(11, "@1x", 11, "@2x", 11, "n*x"), 0, 0, 0);
        sentence("as few as can be in one REGION");
        regionsAre(program(11, "?*x@0xn1", 0, "x", 0, "x"), 0, "1.01.01.");
        regionsAre(program(11, "?*x@0xx", 0, "x", 0, "x"), 0, "0.00.00");
        regionsAre(program(11, "@1x", 11, "@0x", 0, "x"), 1, "1.0");
        regionsAre(program(11, "@1x", 11, "@2x", 11, "x"), 0, "0.0");
    }

    private static void numbersOfRegions() {
        sentence("REGIONS are numbered: P is 0; R is 1, if it is another one");
        RegionStack x = one(11, "x");
        regionsAre(x, 0, "0");
        touchesAre(x, 0, 1, 0, 0);
        touchesAre(x, 1, 0, 0, 0);
        homesAre(x);
        x = one(11, "n*x");
        regionsAre(x, 0, "1.0");
        touchesAre(x, 0, 2, 0, 1);
        touchesAre(x, 1, 1, 1, 0);
        homesAre(x);
        sentence("all others are OWN ones, 2 and on, by the least place of a PART in each");
        regionsOf(0, "*n1", ".2.");
        regionsOf(1, "n*n1", "1.2.");
        regionsOf(10, "+*n1*x", "..2..0");
        regionsOf(11, "n+*n1*x", "1..2..0");
        regionsOf(11, "?*n1xn2", "0.2.00.");
        regionsOf(0, "+*n1*lan2n3", "..2..3.4.3.");
        regionsOf(0, "lan1lbn2+*b*a", "..2...3...3.2");
        regionsOf(1, "lan1lbn2n3", "1.2.1.3.1.");
        regionsOf(1, "lcn4lbn3lan*cn*b", "1.2.1.3.1.4.21.3");
    }

    private static void asManyRegionsAsCanBe() {
        sentence("OWN ones, 2 and on");
        RegionStack x = one(0, "*n".repeat(19) + "1");
        due("tells(0, 2)", x.tells(0, 2), 19);
        for (int i = 0; i < 19; i++) {
            due("region(0, " + (2 * i + 1) + ")", x.region(0, 2 * i + 1), 2 + i);
            due("home(0, " + (2 + i) + ")", x.home(0, 2 + i), 2 * i);
            touchesAre(x, 2 + i, 2, 1, 1);
        }
        due("home(0, 21)", x.home(0, 21), OUTSIDE);
        touchesAre(x, 21, 0, 0, 0);
        runIs(x, 0, 1, 39, 19, 1, 19, 19, 0, 0);

        x = program(10, "*" + "@1".repeat(19) + "x", 11, "n+2*x", 0, "x");
        due("tells(0, 2)", x.tells(0, 2), 19);
        for (int i = 0; i < 19; i++) {
            due("region(0, " + (2 * i + 1) + ")", x.region(0, 2 * i + 1), 2 + i);
            due("home(0, " + (2 + i) + ")", x.home(0, 2 + i), i == 0 ? 0 : 2 * i - 1);
        }
        due("region(0, 39)", x.region(0, 39), 0);
        due("home(0, 21)", x.home(0, 21), OUTSIDE);
        // Of the boxes in a chain there are three: the one given to the run, and those that a CALL is given and gives.
        runIs(x, 3, 41, 21 + 19 * 5, 20, 3, 20, 20, 16, 19);
    }

    private static void bodiesWithoutRegions() {
        sentence("a BODY that has no REGION");
        RegionStack x = one(0, "+x7");
        tellsAre(x, 0, 0, 0, 0);
        regionsAre(x, 0, "...");
        homesAre(x);
        for (int region : new int[] {0, 1, 2, 98, 99}) {
            touchesAre(x, region, 0, 0, 0);
        }
        sentence("a REGION in which no PART is");
        x = one(10, "7");
        tellsAre(x, 0, 0, 0, 0);
        regionsAre(x, 0, ".");
        homesAre(x);
        touchesAre(x, 0, 0, 0, 0);
        touchesAre(x, 1, 0, 0, 0);
        x = one(11, "n1");
        tellsAre(x, 0, 0, 4, 0);
        touchesAre(x, 0, 0, 0, 0);
        touchesAre(x, 1, 1, 1, 0);
    }

    private static void eachEffectAlone() {
        sentence("EFFECT: 1, 2, 4, and 8 for these, added");
        effectIs(0, "7", 0);
        effectIs(10, "7", 0);
        effectIs(11, "x", 0);
        effectIs(10, "*n1", 0);
        effectIs(10, "la?0xn12", 1);
        effectIs(10, "*x", 2);
        effectIs(10, "lax*a", 2);
        effectIs(10, "la?0xn1*a", 3);
        effectIs(1, "n1", 4);
        effectIs(11, "n1", 4);
        effectIs(11, "n*x", 6);
        effectIs(1, "n*n1", 4);
        effectIs(1, "lb@0x?*bbb", 8);
        effectIs(1, "lan1?*aaa", 12);
        effectIs(11, "lb?0xn1n*b", 7);
        effectIs(11, "lan*x?*aaa", 14);
        effectIs(11, "lb?0xn1lan*x?*aaa", 15);
        sentence("if P and R are one: into both");
        effectIs(11, "?*xxx", 10);
        effectIs(11, "?0xn1", 5);
        effectIs(11, "?*xxn1", 15);
    }

    private static void effectsThroughCalls() {
        sentence("a CALL PUTS into that where the TERM in it is, if that BODY PUTS into P");
        effectIs(10, "@1x", 10, PUTS_INTO_P, 1);
        effectIs(0, "@1n1", 10, PUTS_INTO_P, 0);
        effectIs(11, "?@1xxx", 10, PUTS_INTO_P, 5);
        effectIs(1, "lan1?@1aaa", 10, PUTS_INTO_P, 4);
        touchesAre(program(1, "lan1?@1aaa", 10, PUTS_INTO_P, 0, "x"), 1, 7, 2, 0);
        sentence("and into that where the CALL is, if that BODY PUTS into R");
        effectIs(1, "@1x", 1, PUTS_INTO_R, 4);
        effectIs(0, "*@1x", 1, PUTS_INTO_R, 0);
        effectIs(10, "la?0x@112", 1, PUTS_INTO_R, 1);
        effectIs(11, "?0x@11", 1, PUTS_INTO_R, 5);
        sentence("a CALL LOOKS likewise");
        effectIs(10, "@1x", 10, LOOKS_INTO_P, 2);
        effectIs(0, "@1n1", 10, LOOKS_INTO_P, 0);
        effectIs(11, "?@1xxx", 10, LOOKS_INTO_P, 10);
        effectIs(1, "lan1?@1aaa", 10, LOOKS_INTO_P, 12);
        effectIs(1, "@1x", 1, LOOKS_INTO_R, 8);
        effectIs(0, "-*@1x", 1, LOOKS_INTO_R, 0);
        effectIs(10, "la?0x@112", 1, LOOKS_INTO_R, 2);
        effectIs(11, "?0x@11", 1, LOOKS_INTO_R, 10);
        sentence("a CALL of a PASS");
        effectIs(10, "*@1x", 11, "?*xxn1", 3);
        effectIs(10, "*@1x", 11, "x", 2);
        effectIs(11, "@1x", 11, "?*xxn1", 15);
        sentence("a CALL of a BODY that is no PASS");
        effectIs(11, "@1x", 11, "n*x", 6);
        effectIs(11, "@1@1x", 11, "n*x", 6);
        effectIs(11, "@1n1", 11, "n*x", 4);
        effectIs(10, "*@1x", 11, "n*x", 2);
    }

    private static void effectsOfCallsOfCalls() {
        sentence("EFFECT, through calls of calls");
        String[][] texts = {{"@1x", "@2x", "*x"}, {"*x", "@0x", "@1x"}, {"@2x", "*x", "@1x"}};
        for (String[] text : texts) {
            RegionStack x = program(10, text[0], 10, text[1], 10, text[2]);
            for (int body = 0; body < 3; body++) {
                due("tells(" + body + ", 1)", x.tells(body, 1), 2);
            }
        }
        RegionStack x = program(1, "@1x", 1, "@2x", 1, "nx");
        due("tells(0, 1)", x.tells(0, 1), 4);
        x = program(10, "@1x", 10, "?*x@0x@2x", 10, PUTS_INTO_P);
        due("tells(0, 1)", x.tells(0, 1), 3);
        due("tells(1, 1)", x.tells(1, 1), 3);
        due("tells(2, 1)", x.tells(2, 1), 1);
        sentence("EFFECT: as few as can be");
        x = program(10, "@1x", 10, "@0x", 10, "*x");
        due("tells(0, 1)", x.tells(0, 1), 0);
        due("tells(1, 1)", x.tells(1, 1), 0);
        x = program(1, "@1x", 1, "@0x", 11, "@2x");
        due("tells(0, 1)", x.tells(0, 1), 0);
        due("tells(1, 1)", x.tells(1, 1), 0);
        due("tells(2, 1)", x.tells(2, 1), 0);
    }

    private static void whatTouches() {
        sentence("A PART TOUCHES a REGION, if it is in it");
        touchesAre(one(0, "lan12"), 2, 1, 1, 0);
        touchesAre(one(0, "lan1lb?1aa2"), 2, 4, 1, 0);
        touchesAre(one(0, "lblan1a2"), 2, 3, 1, 0);
        touchesAre(one(1, "?1n2n3"), 1, 3, 2, 0);
        touchesAre(program(0, "la@1x2", 1, "nx", 0, "x"), 2, 1, 1, 0);
        sentence("or if it is LOOK, or a CALL, and the TERM in it is in it");
        touchesAre(one(0, "lan1*a"), 2, 3, 1, 1);
        touchesAre(one(10, "+*x*x"), 0, 4, 0, 2);
        touchesAre(one(0, "*?1n2n3"), 2, 4, 2, 1);
        touchesAre(program(0, "@1n1", 10, "*x", 0, "x"), 2, 2, 1, 1);
        touchesAre(program(0, "@1n1", 10, "5", 0, "x"), 2, 2, 1, 0);
        touchesAre(program(0, "@1n1", 10, PUTS_INTO_P, 0, "x"), 2, 2, 2, 0);
        touchesAre(program(0, "*@1x", 1, "nx", 0, "x"), 2, 2, 1, 1);
        touchesAre(program(0, "*@1n1", 11, "n*x", 0, "x"), 2, 2, 1, 1);
        touchesAre(program(0, "*@1n1", 11, "n*x", 0, "x"), 3, 2, 1, 1);
        sentence("a PART that does it in two ways is one PART");
        touchesAre(program(0, "*@1n1", 11, "x", 0, "x"), 2, 3, 1, 1);
        touchesAre(program(0, "*@1n1", 11, "?*xxn1", 0, "x"), 2, 3, 2, 2);
        touchesAre(program(0, "lan1*?0a@1a", 11, "lb?0xn1n*b", 0, "x"), 2, 6, 2, 2);
        touchesAre(program(0, "lan1*?0a@1a", 11, "n*x", 0, "x"), 2, 6, 2, 2);
        touchesAre(program(0, "lan1*?0a@1a", 11, "n1", 0, "x"), 2, 6, 2, 1);
        sentence("touches: the REGION 0 to 99, what");
        RegionStack x = one(10, "*x");
        for (int region : beyond(0, 99)) {
            due("touches(0, " + region + ", 0)", x.touches(0, region, 0), OUTSIDE);
        }
        for (int what : beyond(0, 2)) {
            due("touches(0, 0, " + what + ")", x.touches(0, 0, what), OUTSIDE);
        }
        for (int region = 1; region <= 99; region++) {
            due("touches(0, " + region + ", 0)", x.touches(0, region, 0), 0);
        }
        touchesAre(x, 0, 2, 0, 1);
    }

    private static void homes() {
        sentence("The HOME is the least PART in which all PARTS lie that TOUCH it (which may be one of these)");
        homesOf("lan12", 2);
        homesOf("*n1", 0);
        homesOf("-*n1", 1);
        homesOf("+1*n1", 2);
        homesOf("+*n1*n2", 1, 4);
        homesOf("?1*n23", 2);
        homesOf("@1n1", 0);
        homesOf("+1@1n1", 2);
        homesOf("la?1n2n32", 2);
        homesOf("lan1*a", 0);
        homesOf("+1lan1*a", 2);
        homesOf("lan1lb2*a", 0);
        homesOf("lan1-----*a", 0);
        homesOf("lan1?1*a2", 0);
        homesOf("lan1lbn2*b", 2, 4);
        homesOf("lan1lbn2+*a*b", 0, 4);
        homesOf("lan1lba*b", 0);
        homesOf("lalbn1*ba", 2);
        homesOf("*lan1a", 0);
        homesOf("lb*lan1n23", 2, 5);
        homesOf("*@2n1", 0, 1);
        homesOf("la@2n12", 2, 2);
        homesOf("la@2n1*a", 0, 2);
        homesOf("lalb@2n1b2", 2, 4);
        homesAre(one(11, "n*x"));
        homesAre(one(10, "+*x*n1"), 3);
        homesAre(one(1, "n*n1"), 1);
        sentence("UNKNOWN; NO, likewise; OUTSIDE: there is no such REGION (in this order)");
        RegionStack x = one(0, "*n1");
        for (int body : beyond(0, 2)) {
            due("home(" + body + ", 2)", x.home(body, 2), UNKNOWN);
            due("home(" + body + ", 99)", x.home(body, 99), UNKNOWN);
        }
        x.wipe(1);
        due("home(0, 2), not WELL", x.home(0, 2), NO);
        due("home(0, 99), not WELL", x.home(0, 99), NO);
        due("home(0, -1), not WELL", x.home(0, -1), NO);
        due("home(3, 99), not WELL", x.home(3, 99), UNKNOWN);
    }

    private static void theLastPlaceOfAFullText() {
        sentence("REGIONS of a text of 40 signs");
        RegionStack x = one(10, "-".repeat(38) + "*x");
        tellsAre(x, 0, 0, 2, 0);
        regionsAre(x, 0, ".".repeat(39) + "0");
        x = one(11, "n" + "-".repeat(37) + "*x");
        tellsAre(x, 0, 0, 6, 0);
        regionsAre(x, 0, "1" + ".".repeat(38) + "0");
        x = one(1, "nlan1" + "-".repeat(33) + "*a");
        tellsAre(x, 0, 0, 4, 1);
        regionsAre(x, 0, "1..2" + ".".repeat(35) + "2");
        homesAre(x, 1);
        touchesAre(x, 2, 3, 1, 1);
        x = one(11, "?" + "-".repeat(36) + "1xx");
        tellsAre(x, 0, 1, 0, 0);
        regionsAre(x, 0, "0" + ".".repeat(37) + "00");
        x = one(0, "-".repeat(37) + "*n1");
        regionsAre(x, 0, ".".repeat(38) + "2.");
        homesAre(x, 37);
    }

    private static void numbersAndPlacesAsked() {
        sentence("tells: UNKNOWN; OUTSIDE; NO: the PROGRAM is not WELL");
        RegionStack x = one(10, "*x");
        for (int what : beyond(0, 2)) {
            due("tells(0, " + what + ")", x.tells(0, what), OUTSIDE);
        }
        sentence("region: NONE: it is no BOX, or no PART begins there. OUTSIDE: there is no such place; NO, likewise");
        for (int place : beyond(0, 1)) {
            due("region(0, " + place + ")", x.region(0, place), OUTSIDE);
        }
        regionsOf(0, "lalb12a", ".......");
        for (int body : beyond(0, 2)) {
            due("region(" + body + ", 0)", x.region(body, 0), UNKNOWN);
            due("tells(" + body + ", 0)", x.tells(body, 0), UNKNOWN);
            due("touches(" + body + ", 0, 0)", x.touches(body, 0, 0), UNKNOWN);
        }
        sentence("NO: the PROGRAM is not WELL");
        for (int body = 0; body < 3; body++) {
            x = program(10, "*x", 10, "*x", 10, "*x");
            x.say(body, '!');
            for (int asked = 0; asked < 3; asked++) {
                for (int what = 0; what <= 2; what++) {
                    due("tells(" + asked + ", " + what + ")", x.tells(asked, what), NO);
                    due("touches(" + asked + ", 0, " + what + ")", x.touches(asked, 0, what), NO);
                }
                due("region(" + asked + ", 0)", x.region(asked, 0), NO);
                due("region(" + asked + ", 1)", x.region(asked, 1), NO);
                due("home(" + asked + ", 2)", x.home(asked, 2), NO);
            }
        }
    }

    private static void foundAnewBehindEachChange() {
        sentence("REGIONS, behind a change of another BODY");
        RegionStack x = program(11, "@1x", 11, "x", 0, "x");
        tellsAre(x, 0, 1, 0, 0);
        regionsAre(x, 0, "0.0");
        text(x, 1, "n*x");
        tellsAre(x, 0, 0, 6, 0);
        regionsAre(x, 0, "1.0");
        touchesAre(x, 1, 1, 1, 0);
        text(x, 1, "?*xxn1");
        tellsAre(x, 0, 1, 15, 0);
        touchesAre(x, 0, 2, 1, 1);
        text(x, 0, "lan*xx");
        tellsAre(x, 0, 1, 10, 1);
        homesAre(x, 2);
        x.body(2, 1, 1);
        tellsAre(x, 2, 1, 0, 0);
        x.body(2, 0, 1);
        due("tells(2, 0)", x.tells(2, 0), NO);
    }

    private static RegionStack calling(int kinds, String text, int body) {
        String called = text.replace("@", "@" + body);
        String[] texts = {"x", "x", "x"};
        int[] both = {0, 0, 0};
        texts[body] = called;
        both[body] = kinds;
        return program(both[0], texts[0], both[1], texts[1], both[2], texts[2]);
    }

    private static void nothingIsLeftOfWhatWas() {
        for (int body = 0; body < 3; body++) {
            sentence("as few BODIES a PASS, where there was one");
            RegionStack x = calling(11, "?*x@xx", body);
            tellsAre(x, body, 1, 10, 0);
            text(x, body, "?*x@" + body + "xn1");
            tellsAre(x, body, 0, 6, 0);
            regionsAre(x, body, "1.01.01.");
            sentence("EFFECT: as few as can be, where there was one");
            x = calling(10, "?*x@x1", body);
            tellsAre(x, body, 0, 2, 0);
            text(x, body, "@" + body + "x");
            tellsAre(x, body, 0, 0, 0);
            sentence("OWN REGIONS, where there were others");
            for (int round = 0; round < 3; round++) {
                text(x, body, "+*n1+*n2*x");
                tellsAre(x, body, 0, 2, 2);
                regionsAre(x, body, "..2...3..0");
                text(x, body, "*n*x");
                tellsAre(x, body, 0, 2, 1);
                regionsAre(x, body, ".2.0");
                text(x, body, "*x");
                tellsAre(x, body, 0, 2, 0);
                due("home(" + body + ", 2)", x.home(body, 2), OUTSIDE);
                due("touches(" + body + ", 2, 0)", x.touches(body, 2, 0), 0);
            }
        }
        sentence("REGIONS of a shorter text behind a longer one");
        RegionStack x = one(11, "lax?*xa?*xax");
        regionsAre(x, 0, "0.00.000.000");
        x.body(0, 0, 1);
        text(x, 0, "nlan1lbn2+*a*b");
        regionsAre(x, 0, "1..2...3...2.3");
        text(x, 0, "?1n2n+-3*n4");
        regionsAre(x, 0, "1.1.1....2.");
    }

    public static void main(String[] args) {
        whoIsInOneRegion();
        whichBodyIsAPass();
        asFewPassesAsCanBe();
        numbersOfRegions();
        asManyRegionsAsCanBe();
        bodiesWithoutRegions();
        eachEffectAlone();
        effectsThroughCalls();
        effectsOfCallsOfCalls();
        whatTouches();
        homes();
        theLastPlaceOfAFullText();
        numbersAndPlacesAsked();
        foundAnewBehindEachChange();
        nothingIsLeftOfWhatWas();
        end();
    }
}
