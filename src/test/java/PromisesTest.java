/** Each promise of the document, by its number: ordinary inputs, edges, refused answers. */
public final class PromisesTest extends Asks {
    private static final int[] NO_BODIES = {-1, 3, Integer.MIN_VALUE, Integer.MAX_VALUE};

    private static void due(int promise, String what, int got, int want) {
        sentence("promise " + promise);
        due(what, got, want);
    }

    private static void newObject() {
        RegionStack x = new RegionStack();
        for (int body = 0; body < 3; body++) {
            due(1, "told(" + body + ")", x.told(body), 0);
            due(1, "told(1" + body + ")", x.told(10 + body), 0);
            due(1, "fault(" + body + ")", x.fault(body), 0);
        }
        due(1, "well()", x.well(), 0);
        due(1, "restore(0)", x.restore(0), STATE);
        due(1, "restore(1)", x.restore(1), STATE);
    }

    private static void bodies() {
        RegionStack x = new RegionStack();
        due(2, "body(0, 1, 0)", x.body(0, 1, 0), 0);
        due(2, "body(0, 0, 1)", x.body(0, 0, 1), 10);
        due(2, "body(0, 1, 1)", x.body(0, 1, 1), 1);
        due(2, "body(0, 0, 0)", x.body(0, 0, 0), 11);
        due(2, "body(1, 1, 1)", x.body(1, 1, 1), 0);
        due(2, "body(0, 2, 0)", x.body(0, 2, 0), OUTSIDE);
        due(2, "body(0, -1, 0)", x.body(0, -1, 0), OUTSIDE);
        due(2, "body(0, 0, 2)", x.body(0, 0, 2), OUTSIDE);
        due(2, "body(0, 1, -1)", x.body(0, 1, -1), OUTSIDE);
        due(2, "a refused body() changes nothing", x.told(10), 0);
        for (int body : NO_BODIES) {
            due(2, "body(" + body + ", 2, 2)", x.body(body, 2, 2), UNKNOWN);
            due(3, "say(" + body + ", 0)", x.say(body, 0), UNKNOWN);
            due(4, "wipe(" + body + ")", x.wipe(body), UNKNOWN);
        }
    }

    private static void signs() {
        RegionStack x = new RegionStack();
        due(3, "say(0, 32)", x.say(0, 32), OUTSIDE);
        due(3, "say(0, 127)", x.say(0, 127), OUTSIDE);
        due(3, "say(0, -1)", x.say(0, -1), OUTSIDE);
        due(3, "say(0, 33)", x.say(0, 33), 1);
        due(3, "say(0, 126)", x.say(0, 126), 2);
        for (int i = 3; i <= 40; i++) {
            due(3, "the sign " + i, x.say(0, '-'), i);
        }
        due(3, "a sign too many", x.say(0, '-'), FULL);
        due(3, "OUTSIDE is ahead of FULL", x.say(0, 32), OUTSIDE);
        due(3, "another body has room", x.say(1, 'x'), 1);
        due(4, "wipe(0)", x.wipe(0), 40);
        due(4, "wipe(0) again", x.wipe(0), 0);
        due(4, "signs behind wipe", x.told(0), 0);
        due(4, "the other body keeps its signs", x.told(1), 1);
        x.body(1, 1, 1);
        x.wipe(1);
        due(4, "wipe leaves the kinds", x.told(11), 11);
    }

    private static void faults() {
        String[] texts = {"", "x", "5", "n", "n1", "n11", "xx", "e", "l", "la", "la1", "lax", "la1a", "le", "l1", "@", "@0",
            "@3", "@0x", "@3x", "+1", "+12", "+123", "?12", "?123", "?1+", "?12!3", "lalb12a", "xl", "*n-@2x", "~", "--------"};
        int[] faults = {0, NONE, NONE, 1, NONE, 2, 1, 0, 1, 2, 3, 3, NONE, 1, 1, 1, 2,
            1, NONE, 1, 2, NONE, 3, 3, NONE, 3, 3, NONE, 1, NONE, 0, 8};
        for (int i = 0; i < texts.length; i++) {
            RegionStack x = new RegionStack();
            text(x, 2, texts[i]);
            due(5, "fault of " + texts[i], x.fault(2), faults[i]);
            due(6, "parts of " + texts[i], x.parts(2, 0) == NO ? 1 : 0, faults[i] == NONE ? 0 : 1);
        }
        RegionStack x = new RegionStack();
        text(x, 0, "-".repeat(39) + "7");
        due(5, "forty signs", x.fault(0), NONE);
        due(6, "forty parts", x.parts(0, 0), 40);
        for (int body : NO_BODIES) {
            due(5, "fault(" + body + ")", x.fault(body), UNKNOWN);
            due(6, "parts(" + body + ", 9)", x.parts(body, 9), UNKNOWN);
            due(7, "kind(" + body + ", 9)", x.kind(body, 9), UNKNOWN);
        }
        due(6, "parts(1, 2) with a fault", x.parts(1, 2), OUTSIDE);
        due(6, "parts(1, -1) with a fault", x.parts(1, -1), OUTSIDE);
        due(6, "parts(1, 1) with a fault", x.parts(1, 1), NO);
    }

    private static void ill(int kinds, String text, int place) {
        RegionStack x = program(kinds, text, 10, "*x", 1, "nx");
        due(6, "the ill one of " + text, x.parts(0, 1), place);
        due(8, "well() of " + text, x.well(), place == NONE ? 1 : 0);
    }

    private static void illParts() {
        ill(0, "x", NONE);
        ill(0, "a", 0);
        ill(0, "la1b", 3);
        ill(0, "laa1", 2);
        ill(0, "la1la+aa2", NONE);
        ill(0, "la1lan1*a", NONE);
        ill(0, "lan1la1*a", 7);
        ill(0, "+*n1n1", 0);
        ill(0, "+n12", 0);
        ill(0, "-n1", 0);
        ill(0, "-*n1", NONE);
        ill(0, "*nn1", 1);
        ill(0, "*1", 0);
        ill(0, "?n112", 0);
        ill(0, "?1n12", 0);
        ill(0, "?12n3", 0);
        ill(0, "*?1n2n3", NONE);
        ill(0, "@1x", 0);
        ill(0, "@1nx", NONE);
        ill(0, "@1@2x", NONE);
        ill(0, "*@2n1", 1);
        ill(0, "n1", 0);
        ill(1, "n1", NONE);
        ill(1, "x", 0);
        ill(11, "x", NONE);
        ill(11, "lax?1an*x", NONE);
        ill(10, "-x", 0);
        ill(0, "+1-n2", 2);
        due(6, "parts of la1a", partsOf("la1a"), 3);
        due(6, "parts of @1@2x", partsOf("@1@2x"), 3);
        RegionStack x = one(0, "x");
        due(8, "well()", x.well(), 1);
        x.body(2, 0, 1);
        due(8, "well() behind a kind", x.well(), 0);
        text(x, 2, "nx");
        due(8, "well() behind a text", x.well(), 1);
        x.say(1, 'x');
        due(8, "well() behind a sign", x.well(), 0);
    }

    private static int partsOf(String text) {
        RegionStack x = new RegionStack();
        text(x, 0, text);
        return x.parts(0, 0);
    }

    private static void kinds() {
        RegionStack x = program(11, "lan*x?1a2", 11, "x", 1, "nx");
        due(6, "the two of the choice are of two kinds", x.parts(0, 1), 5);
        due(7, "it is of the kind of the second term", x.kind(0, 5), 1);
        x = program(10, "lan*xlba?1*b*a", 11, "x", 1, "nx");
        int[] due = {0, NONE, 1, 0, 1, 0, NONE, 1, 0, 0, 0, 1, 0, 1};
        for (int place = 0; place < due.length; place++) {
            due(7, "kind at " + place, x.kind(0, place), due[place]);
        }
        due(7, "kind at 14", x.kind(0, 14), OUTSIDE);
        due(7, "kind at -1", x.kind(0, -1), OUTSIDE);
        text(x, 0, "+@1@2xb");
        due(7, "an ill sum is a number", x.kind(0, 0), 0);
        due(7, "kind of a call", x.kind(0, 1), 1);
        due(7, "no part at a name", x.kind(0, 2), NONE);
        due(7, "kind of x", x.kind(0, 5), 1);
        due(7, "kind of a letter that is not bound", x.kind(0, 6), 0);
        x.body(1, 1, 0);
        due(7, "kind of a call behind body()", x.kind(0, 1), 0);
        x.say(0, 'x');
        due(7, "kind with a fault", x.kind(0, 0), NO);
        due(7, "no such place ahead of the fault", x.kind(0, 8), OUTSIDE);
    }

    private static void passes() {
        RegionStack x = program(11, "x", 11, "@0x", 11, "?*x@1xx");
        for (int body = 0; body < 3; body++) {
            due(9, "a chain of passes, " + body, x.tells(body, 0), 1);
        }
        due(9, "looks, through the pass", x.tells(2, 1), 10);
        due(9, "no effect", x.tells(1, 1), 0);
        x = program(11, "@1x", 11, "@0x", 11, "n*x");
        due(9, "two that call each other are as few passes as can be", x.tells(0, 0), 0);
        due(9, "the other one", x.tells(1, 0), 0);
        due(9, "no effect is found by going round alone", x.tells(0, 1), 0);
        due(9, "no pass", x.tells(2, 0), 0);
        due(9, "looks into P, puts into R", x.tells(2, 1), 2 + 4);
        due(10, "R of a body that is no pass", x.region(2, 0), 1);
        due(10, "P", x.region(2, 2), 0);
        due(10, "a number", x.region(2, 1), NONE);
        x = program(11, "@1x", 11, "?*x@2xx", 11, "lbn0@0x");
        due(9, "through three bodies: 2 first", x.tells(2, 0), 1);
        due(9, "through three bodies: then 0", x.tells(0, 0), 1);
        due(9, "through three bodies: effect", x.tells(0, 1), 10);
        due(9, "a region of its own", x.tells(2, 2), 1);
        x = program(10, "*@1x", 11, "n+9*x", 1, "lan1?*a@1an2");
        due(9, "a call puts into where it is", x.tells(2, 1), 4);
        due(9, "a call looks into what it is given", x.tells(0, 1), 2);
        due(9, "own regions", x.tells(0, 2), 1);
        due(9, "own regions", x.tells(2, 2), 1);
        text(x, 2, "");
        due(9, "tells(3, 9)", x.tells(3, 9), UNKNOWN);
        due(9, "tells(-1, 0)", x.tells(-1, 0), UNKNOWN);
        due(9, "tells(0, 3), not well", x.tells(0, 3), OUTSIDE);
        due(9, "tells(0, -1), not well", x.tells(0, -1), OUTSIDE);
        due(9, "tells(0, 0), not well", x.tells(0, 0), NO);
    }

    private static void regions() {
        // l a n 1 l b ? x a n 2 * b: the choice joins the letter and the new box
        RegionStack x = one(0, "lan1lb?xan2*b");
        int[] due = {NONE, NONE, 2, NONE, NONE, NONE, 2, NONE, 2, 2, NONE, NONE, 2};
        for (int place = 0; place < due.length; place++) {
            due(10, "region at " + place, x.region(0, place), due[place]);
        }
        due(10, "region at 13", x.region(0, 13), OUTSIDE);
        due(10, "region at -1", x.region(0, -1), OUTSIDE);
        due(10, "region(3, 99)", x.region(3, 99), UNKNOWN);
        due(10, "region(-1, 0)", x.region(-1, 0), UNKNOWN);
        due(11, "home over the outer LET", x.home(0, 2), 0);
        due(12, "touches", x.touches(0, 2, 0), 6);
        due(12, "puts", x.touches(0, 2, 1), 2);
        due(12, "looks", x.touches(0, 2, 2), 1);

        x = one(1, "lcn4lbn3lan*cn*b");
        int[] mixedDue = {1, NONE, 2, NONE, 1, NONE, 3, NONE, 1, NONE, 4, NONE, 2, 1, NONE, 3};
        for (int place = 0; place < mixedDue.length; place++) {
            due(10, "own regions by their least place, at " + place, x.region(0, place), mixedDue[place]);
        }
        due(9, "own regions", x.tells(0, 2), 3);
        due(11, "home", x.home(0, 2), 0);
        due(11, "home", x.home(0, 3), 4);
        due(11, "a home that is NEW itself", x.home(0, 4), 10);
        due(11, "no fourth own one", x.home(0, 5), OUTSIDE);
        due(11, "R is no own one", x.home(0, 1), OUTSIDE);
        due(11, "P is no own one", x.home(0, 0), OUTSIDE);
        due(11, "home(0, -1)", x.home(0, -1), OUTSIDE);
        due(12, "R", x.touches(0, 1, 0), 4);
        due(12, "no P here", x.touches(0, 0, 0), 0);
        due(12, "no such region", x.touches(0, 99, 0), 0);
        x.say(1, 'x');
        due(10, "region, not well", x.region(0, 0), NO);
        due(10, "no such place, not well", x.region(0, 16), OUTSIDE);
        due(11, "NO is ahead of OUTSIDE", x.home(0, 77), NO);
        due(11, "home(3, 2)", x.home(3, 2), UNKNOWN);
        due(11, "home(-1, 2)", x.home(-1, 2), UNKNOWN);
        due(12, "touches(3, 100, 3)", x.touches(3, 100, 3), UNKNOWN);
        due(12, "touches(0, 100, 0)", x.touches(0, 100, 0), OUTSIDE);
        due(12, "touches(0, -1, 0)", x.touches(0, -1, 0), OUTSIDE);
        due(12, "touches(0, 0, 3)", x.touches(0, 0, 3), OUTSIDE);
        due(12, "touches(0, 0, -1)", x.touches(0, 0, -1), OUTSIDE);
        due(12, "touches, not well", x.touches(0, 0, 0), NO);
    }

    private static void touching() {
        // body 1 looks into P and puts into R; a call of it does both where it stands
        RegionStack x = program(0, "*@1n5", 11, "n*x", 10, "lax*a");
        due(10, "a call of no pass is not where its term is", x.region(0, 1), 2);
        due(10, "its term", x.region(0, 3), 3);
        due(11, "home of where the call is", x.home(0, 2), 0);
        due(11, "home of its term", x.home(0, 3), 1);
        due(12, "call and look touch", x.touches(0, 2, 0), 2);
        due(12, "the call puts", x.touches(0, 2, 1), 1);
        due(12, "the look looks", x.touches(0, 2, 2), 1);
        due(12, "NEW and call touch", x.touches(0, 3, 0), 2);
        due(12, "NEW puts", x.touches(0, 3, 1), 1);
        due(12, "the call looks", x.touches(0, 3, 2), 1);
        due(12, "a letter, x and look touch P", x.touches(2, 0, 0), 3);
        due(12, "R of a number is none", x.touches(2, 1, 0), 0);
        due(9, "effect", x.tells(2, 1), 2);
        x = program(11, "x", 10, "*n*x", 10, "5");
        due(12, "P is R: no region 1", x.touches(0, 1, 0), 0);
        due(12, "P is R", x.touches(0, 0, 0), 1);
        due(12, "P without a part", x.touches(2, 0, 0), 0);
        due(11, "a home inside", x.home(1, 2), 0);
    }

    private static void runs() {
        sentence("promise 13");
        runIs(one(0, "5"), 3, 5, 1, 0, 0, 0, 0, 0, 0);
        runIs(one(10, "5"), 3, 5, 1, 1, 1, 1, 1, 0, 0);
        runIs(one(10, "*x"), 12, 12, 2, 1, 1, 1, 1, 1, 0);
        runIs(one(11, "x"), 999, 999, 1, 1, 1, 1, 1, 1, 0);
        runIs(one(11, "n-*x"), 10, 9, 4, 2, 2, 2, 2, 1, 0);
        runIs(one(0, "-x"), 0, 0, 2, 0, 0, 0, 0, 0, 0);
        runIs(one(0, "+xx"), 500, 0, 3, 0, 0, 0, 0, 0, 0);
        runIs(one(0, "+xx"), 999, 998, 3, 0, 0, 0, 0, 0, 0);
        runIs(one(0, "?x12"), 0, 2, 3, 0, 0, 0, 0, 0, 0);
        runIs(one(0, "?x12"), 7, 1, 3, 0, 0, 0, 0, 0, 0);
        runIs(one(0, "la1+la2aa"), 7, 3, 7, 0, 0, 0, 0, 0, 0);
        // one region closed ahead of the next, then two at once
        runIs(one(0, "+*n1*n2"), 0, 3, 7, 2, 1, 1, 2, 0, 0);
        runIs(one(0, "lan1lbn2+*a*b"), 0, 3, 11, 2, 2, 2, 2, 0, 0);
        // a region whose home is NEW alone is closed at once
        runIs(one(0, "lan1lbn2lcn3*c"), 0, 3, 11, 3, 1, 1, 3, 0, 0);
        // a branch that is not taken opens nothing
        runIs(one(0, "?x*n1*n2"), 0, 2, 5, 1, 1, 1, 1, 0, 0);
        RegionStack x = one(0, "5");
        for (int body : NO_BODIES) {
            due(13, "run(" + body + ", -1, 9)", x.run(body, -1, 9), UNKNOWN);
            due(14, "words(" + body + ", -1, 9)", x.words(body, -1, 9), UNKNOWN);
            due(15, "mixed(" + body + ", -1)", x.mixed(body, -1), UNKNOWN);
        }
        x.say(2, 'x');
        int[] noNumbers = {-1, 1000, Integer.MIN_VALUE, Integer.MAX_VALUE};
        for (int n : noNumbers) {
            due(13, "run(0, " + n + ", 0)", x.run(0, n, 0), OUTSIDE);
            due(14, "words(0, " + n + ", 0)", x.words(0, n, 0), OUTSIDE);
            due(15, "mixed(0, " + n + ")", x.mixed(0, n), OUTSIDE);
        }
        due(13, "run(0, 0, 8)", x.run(0, 0, 8), OUTSIDE);
        due(13, "run(0, 0, -1)", x.run(0, 0, -1), OUTSIDE);
        due(14, "words(0, 0, 2)", x.words(0, 0, 2), OUTSIDE);
        due(14, "words(0, 0, -1)", x.words(0, 0, -1), OUTSIDE);
        due(13, "run, not well", x.run(0, 0, 0), NO);
        due(14, "words, not well", x.words(0, 0, 0), NO);
        due(15, "mixed, not well", x.mixed(0, 0), NO);
    }

    private static void limits() {
        sentence("promise 13");
        // given n, body 1 takes 12 * 2^n - 9 steps
        String steps = "+@17+@16+@15+@14+@13+@12";
        RegionStack x = program(0, steps + "-----------1", 0, "?x+@1-x@1-x0", 0, "x");
        due(13, "3000 steps", x.run(0, 0, 1), 3000);
        text(x, 0, steps + "------------1");
        runIsNotKnown(x, 0);

        // given n, body 1 makes 4 * 2^n boxes
        String body1 = "?x+@1-x@1-x+*n1+*n1+*n1*n1";
        x = program(0, "+@16+@13+@11@10", 0, body1, 0, "x");
        due(13, "300 boxes", x.run(0, 0, 2), 300);
        due(13, "one at once", x.run(0, 0, 3), 1);
        due(14, "300 words in the plain run", x.words(0, 0, 1), 300);
        due(15, "1 by 300", x.mixed(0, 0), Float.floatToIntBits(1f / 300f));
        x.body(0, 1, 0);
        runIsNotKnown(x, 0);
        text(x, 0, "+@16+@13+@11+*n1+*n1*n1");
        due(13, "300 boxes with the one that is given", x.run(0, 0, 2), 300);
        x.body(0, 0, 0);
        text(x, 0, "+@16+@13+@11+@10*n1");
        runIsNotKnown(x, 0);

        x = one(0, "?x+1@0-x0");
        due(13, "12 calls in one another", x.run(0, 12, 0), 12);
        due(13, "12 calls", x.run(0, 12, 7), 12);
        runIsNotKnown(x, 13);
        due(13, "a known run behind one that is not", x.run(0, 1, 0), 1);
        x = one(0, "@1".repeat(19) + "x");
        due(13, "calls in what is given are not in one another", x.run(0, 5, 7), 19);
        due(13, "what they give", x.run(0, 5, 0), 5);
        // a tree as deep as it goes, twelve times
        x = one(0, "?x" + "-".repeat(30) + "@0-xx");
        due(13, "deep terms in twelve calls", x.run(0, 12, 1), 12 * 35 + 3);
        runIsNotKnown(one(0, "@0x"), 0);
    }

    private static void words() {
        RegionStack x = one(0, "la?0n1n+9x*a");
        due(14, "9 is tight", x.words(0, 0, 0), 1);
        due(14, "10 is wide", x.words(0, 1, 0), 2);
        due(14, "9 is one plain word", x.words(0, 0, 1), 1);
        due(14, "10 are two plain words", x.words(0, 1, 1), 2);
        // the box of 5 is in the region that the second one spreads
        x = one(10, "la?0xn+*x9*a");
        due(13, "what it comes to", x.run(0, 5, 0), 14);
        due(13, "became spread", x.run(0, 5, 6), 1);
        due(14, "two boxes of two words", x.words(0, 5, 0), 4);
        due(14, "plain: one and two", x.words(0, 5, 1), 3);
        due(15, "4 by 3", x.mixed(0, 5), 0x3FAAAAAB);
        due(14, "all tight", x.words(0, 0, 0), 2);
        due(15, "1", x.mixed(0, 0), 0x3F800000);
        x = one(11, "lbxn1");
        due(14, "P spread, R tight", x.words(0, 10, 0), 3);
        due(15, "3 by 3", x.mixed(0, 10), 0x3F800000);
        // spread stays spread
        x = one(10, "la?0xn1*a");
        due(14, "a small box in a spread region has two words", x.words(0, 10, 0), 4);
        due(14, "plain it has one", x.words(0, 10, 1), 3);
        due(13, "became spread once", x.run(0, 10, 6), 1);
        x = one(0, "+*nx*nx");
        due(14, "two words go with a box of a spread region", x.words(0, 10, 0), 2);
        // a region lies below those of the call: nothing is put into it
        x = program(0, "lbn5+*@1nx*b", 11, "n*x", 0, "x");
        due(14, "the call puts where it is", x.words(0, 10, 0), 5);
        due(13, "regions that became spread", x.run(0, 10, 6), 2);
        x = program(0, "lbn5+@1nx*b", 10, "*?0xn*x", 0, "x");
        due(14, "the call puts where its term is", x.words(0, 10, 0), 5);
        due(13, "the one that became spread", x.run(0, 10, 6), 1);
        x = one(0, "+*n1+*n1*n1");
        due(15, "1 by 3", x.mixed(0, 0), 0x3EAAAAAB);
        x = one(0, "+*nx+*n1*n1");
        due(15, "2 by 4", x.mixed(0, 10), 0x3F000000);
        due(15, "no box", one(0, "x").mixed(0, 3), 0);
    }

    private static void images() {
        RegionStack x = program(10, "*x", 0, "x", 1, "nx");
        due(16, "image(-1)", x.image(-1), OUTSIDE);
        due(16, "image(2)", x.image(2), OUTSIDE);
        due(17, "restore(-1)", x.restore(-1), OUTSIDE);
        due(17, "restore(2)", x.restore(2), OUTSIDE);
        due(17, "a refused image keeps nothing", x.restore(0), STATE);
        due(16, "image(1)", x.image(1), 1);
        due(17, "restore(0), not kept", x.restore(0), STATE);
        due(13, "a run", x.run(0, 8, 0), 8);
        x.body(0, 0, 0);
        text(x, 0, "+x1");
        text(x, 1, "");
        due(16, "image(0)", x.image(0), 1);
        due(17, "restore(1)", x.restore(1), 1);
        due(17, "a run as it was", x.run(0, 8, 0), 8);
        due(17, "kinds as they were", x.told(10), 10);
        due(17, "signs as they were", x.told(0), 2);
        due(17, "well, as it was", x.well(), 1);
        x.wipe(2);
        due(17, "restore(1) again", x.restore(1), 1);
        due(17, "the image is still whole", x.told(2), 2);
        due(17, "restore(0)", x.restore(0), 1);
        due(17, "the other image", x.told(0), 3);
        due(17, "the other kinds", x.told(10), 0);
        due(17, "not well, as it was", x.well(), 0);
        due(17, "a fault as it was", x.fault(1), 0);
        due(16, "image(1) again", x.image(1), 1);
        text(x, 1, "x");
        due(17, "restore(1) is the newer one", x.restore(1), 1);
        due(17, "as it was when it was kept", x.told(1), 0);
    }

    private static void told() {
        RegionStack x = program(10, "*x", 1, "n5", 11, "x");
        int[] asks = {0, 1, 2, 10, 11, 12, 100, 101, 200, 201, 300};
        int[] dues = {2, 2, 1, 10, 1, 11, '*', 'x', 'n', '5', 'x'};
        for (int i = 0; i < asks.length; i++) {
            due(18, "told(" + asks[i] + ")", x.told(asks[i]), dues[i]);
        }
        int[] outside = {-1, 3, 9, 13, 99, 102, 140, 199, 202, 301, 400, 1000, Integer.MIN_VALUE, Integer.MAX_VALUE};
        for (int what : outside) {
            due(18, "told(" + what + ")", x.told(what), OUTSIDE);
        }
        text(x, 2, "-".repeat(40));
        due(18, "the last of forty", x.told(339), '-');
        due(18, "behind the last of forty", x.told(340), OUTSIDE);
    }

    private static void constants() {
        due(1, "NONE", RegionStack.NONE, NONE);
        due(1, "UNKNOWN", RegionStack.UNKNOWN, UNKNOWN);
        due(1, "OUTSIDE", RegionStack.OUTSIDE, OUTSIDE);
        due(1, "STATE", RegionStack.STATE, STATE);
        due(1, "FULL", RegionStack.FULL, FULL);
        due(1, "NO", RegionStack.NO, NO);
    }

    public static void main(String[] args) {
        constants();
        newObject();
        bodies();
        signs();
        faults();
        illParts();
        kinds();
        passes();
        regions();
        touching();
        runs();
        limits();
        words();
        images();
        told();
        end();
    }
}
