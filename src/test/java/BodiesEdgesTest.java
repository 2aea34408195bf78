/** Row 1 of the document's Terms, promises 1 to 8: each sentence that names a boundary, on both sides of it. */
public final class BodiesEdgesTest extends Asks {
    private static final int LEAST_SIGN = 33, MOST_SIGN = 126;

    private static RegionStack saying(int body, String text) {
        RegionStack x = new RegionStack();
        say(x, body, text);
        return x;
    }

    private static void faultIs(String text, int fault) {
        for (int body = 0; body < 3; body++) {
            RegionStack x = saying(body, text);
            due("fault(" + body + ") of '" + text + "'", x.fault(body), fault);
            due("parts(" + body + ", 0) of '" + text + "' is refused", x.parts(body, 0) == NO ? 1 : 0, fault == NONE ? 0 : 1);
        }
    }

    /** Body 0, while 1 is given a BOX and gives a NUMBER, and 2 is given a NUMBER and gives a BOX. */
    private static RegionStack amongCalls(int kinds, String text) {
        return program(kinds, text, 10, "*x", 1, "nx");
    }

    private static void illIs(int kinds, String text, int place) {
        RegionStack x = amongCalls(kinds, text);
        due("parts(0, 1) of " + text, x.parts(0, 1), place);
        due("well() with " + text, x.well(), place == NONE ? 1 : 0);
    }

    private static void aNewObject() {
        sentence("No sign is said; all is of NUMBERS");
        RegionStack x = new RegionStack();
        for (int body = 0; body < 3; body++) {
            due("told(" + body + ")", x.told(body), 0);
            due("told(" + (10 + body) + ")", x.told(10 + body), 0);
            due("told(" + (100 * body + 100) + ")", x.told(100 * body + 100), OUTSIDE);
            due("fault(" + body + ")", x.fault(body), 0);
            due("wipe(" + body + ")", x.wipe(body), 0);
            due("the first say(" + body + ", 'x')", x.say(body, 'x'), 1);
            due("kind(" + body + ", 0) of x", x.kind(body, 0), 0);
        }
        due("well()", x.well(), 1);
        for (int body = 0; body < 3; body++) {
            due("body(" + body + ", 1, 1)", x.body(body, 1, 1), 0);
        }
    }

    private static void objectsAreApart() {
        sentence("A new object");
        RegionStack one = amongCalls(11, "x");
        one.image(0);
        RegionStack other = new RegionStack();
        due("told(0)", other.told(0), 0);
        due("told(10)", other.told(10), 0);
        due("restore(0)", other.restore(0), STATE);
        say(other, 0, "+xx");
        due("told(0) of the first one", one.told(0), 1);
        due("told(10) of the first one", one.told(10), 11);
    }

    private static void bodiesAre0To2() {
        sentence("BODIES are 0 to 2");
        RegionStack x = program(10, "*x", 1, "nx", 11, "x");
        int[] given = {1, 0, 1};
        int[] gives = {0, 1, 1};
        int[] signs = {2, 2, 1};
        for (int body = 0; body < 3; body++) {
            due("body(" + body + ")", x.body(body, given[body], gives[body]), 10 * given[body] + gives[body]);
            due("fault(" + body + ")", x.fault(body), NONE);
            due("parts(" + body + ", 0)", x.parts(body, 0), signs[body]);
            due("kind(" + body + ", 0)", x.kind(body, 0), gives[body]);
            due("tells(" + body + ", 0)", x.tells(body, 0), body == 2 ? 1 : 0);
            due("region(" + body + ", 0)", x.region(body, 0), body == 0 ? NONE : body == 1 ? 1 : 0);
            due("home(" + body + ", 2)", x.home(body, 2), OUTSIDE);
            due("touches(" + body + ", 0, 0)", x.touches(body, 0, 0), body == 0 ? 2 : body == 1 ? 0 : 1);
            due("run(" + body + ", 7, 0)", x.run(body, 7, 0), 7);
            due("words(" + body + ", 7, 0)", x.words(body, 7, 0), 1);
            due("mixed(" + body + ", 7)", x.mixed(body, 7), Float.floatToIntBits(1f));
        }
        for (int body = 0; body < 3; body++) {
            due("say(" + body + ")", x.say(body, 'x'), signs[body] + 1);
            due("wipe(" + body + ")", x.wipe(body), signs[body] + 1);
        }
        for (int body : beyond(0, 2)) {
            due("body(" + body + ", 0, 0)", x.body(body, 0, 0), UNKNOWN);
            due("say(" + body + ", 'x')", x.say(body, 'x'), UNKNOWN);
            due("wipe(" + body + ")", x.wipe(body), UNKNOWN);
            due("fault(" + body + ")", x.fault(body), UNKNOWN);
            due("parts(" + body + ", 0)", x.parts(body, 0), UNKNOWN);
            due("kind(" + body + ", 0)", x.kind(body, 0), UNKNOWN);
        }
    }

    private static void kindsAre0And1() {
        sentence("NUMBER 0 (at first), or BOX 1");
        for (int body = 0; body < 3; body++) {
            RegionStack x = new RegionStack();
            int before = 0;
            for (int kinds : new int[] {10, 11, 1, 0, 11, 0}) {
                due("body(" + body + ", " + kinds / 10 + ", " + kinds % 10 + ")", x.body(body, kinds / 10, kinds % 10), before);
                before = kinds;
            }
            x.body(body, 0, 1);
            for (int kind : beyond(0, 1)) {
                due("body(" + body + ", " + kind + ", 0)", x.body(body, kind, 0), OUTSIDE);
                due("body(" + body + ", 1, " + kind + ")", x.body(body, 1, kind), OUTSIDE);
                due("body(" + body + ", " + kind + ", " + kind + ")", x.body(body, kind, kind), OUTSIDE);
            }
            due("the KINDS behind what was refused", x.told(10 + body), 1);
            due("KINDS of the next body", x.told(10 + (body + 1) % 3), 0);
            due("KINDS of the body behind it", x.told(10 + (body + 2) % 3), 0);
        }
    }

    private static void upTo40Signs() {
        sentence("a text of up to 40 signs");
        for (int body = 0; body < 3; body++) {
            RegionStack x = new RegionStack();
            for (int count = 1; count <= 40; count++) {
                due("the sign number " + count, x.say(body, 33 + count), count);
            }
            due("the sign number 41", x.say(body, 'x'), FULL);
            due("the sign number 41 again", x.say(body, 126), FULL);
            due("signs behind FULL", x.told(body), 40);
            due("the last sign", x.told(100 * body + 139), 73);
            due("no sign behind it", x.told(100 * body + 140), OUTSIDE);
            due("another body has room", x.say((body + 1) % 3, 'x'), 1);
            due("wipe(" + body + ")", x.wipe(body), 40);
            due("told(" + body + ") behind wipe", x.told(body), 0);
            due("the first sign behind wipe", x.told(100 * body + 100), OUTSIDE);
            due("a sign behind wipe", x.say(body, 'x'), 1);
        }
    }

    private static void codes33To126() {
        sentence("codes 33 to 126");
        for (int body = 0; body < 3; body++) {
            RegionStack x = new RegionStack();
            for (int sign = LEAST_SIGN; sign <= MOST_SIGN; sign++) {
                due("say(" + body + ", " + sign + ")", x.say(body, sign), 1);
                due("told of " + sign, x.told(100 * body + 100), sign);
                x.wipe(body);
            }
            for (int sign : beyond(LEAST_SIGN, MOST_SIGN)) {
                due("say(" + body + ", " + sign + ")", x.say(body, sign), OUTSIDE);
            }
            for (int sign : new int[] {0, 10, 'x' + 128, 'x' + 256, 'x' + 65536, 'x' - 65536, -'x'}) {
                due("say(" + body + ", " + sign + ")", x.say(body, sign), OUTSIDE);
            }
            due("told(" + body + ")", x.told(body), 0);
        }
    }

    private static void wipeAnswersHowMany() {
        sentence("Signs of a BODY go: how many there were");
        RegionStack x = amongCalls(11, "x");
        due("wipe(1)", x.wipe(1), 2);
        due("wipe(1) again", x.wipe(1), 0);
        due("told(0)", x.told(0), 1);
        due("told(2)", x.told(2), 2);
        due("KINDS stay", x.told(11), 10);
        due("the text is a new one", x.say(1, '7'), 1);
        due("fault(1)", x.fault(1), NONE);
        due("told(200)", x.told(200), '7');
        due("told(201)", x.told(201), OUTSIDE);
    }

    private static void signsThatBeginATerm() {
        sentence("a TERM: a figure, x, a letter a to d, n, *, -, +, ?, l, @");
        String whole = "0123456789xabcd";
        String moreMustCome = "n*-+?l@";
        for (char sign = LEAST_SIGN; sign <= MOST_SIGN; sign++) {
            boolean isWhole = whole.indexOf(sign) >= 0;
            boolean needsMore = moreMustCome.indexOf(sign) >= 0;
            faultIs("" + sign, isWhole ? NONE : needsMore ? 1 : 0);
            faultIs("-" + sign, isWhole ? NONE : needsMore ? 2 : 1);
            faultIs("+1" + sign, isWhole ? NONE : needsMore ? 3 : 2);
            faultIs("lb" + sign, isWhole ? 3 : needsMore ? 3 : 2);
            faultIs("@2" + sign, isWhole ? NONE : needsMore ? 3 : 2);
        }
    }

    private static void namesOfLetAndCall() {
        sentence("l, a letter a to d; @, a figure 0 to 2");
        for (char sign = LEAST_SIGN; sign <= MOST_SIGN; sign++) {
            boolean isLetter = sign >= 'a' && sign <= 'd';
            boolean isBody = sign >= '0' && sign <= '2';
            faultIs("l" + sign, isLetter ? 2 : 1);
            faultIs("l" + sign + "11", isLetter ? NONE : 1);
            faultIs("@" + sign, isBody ? 2 : 1);
            faultIs("@" + sign + "1", isBody ? NONE : 1);
        }
    }

    private static void nothingBehindTheTerm() {
        sentence("THE FAULT: the place of the first sign that can not stand there (also behind the end of the TERM)");
        for (char sign = LEAST_SIGN; sign <= MOST_SIGN; sign++) {
            faultIs("1" + sign, 1);
            faultIs("n1" + sign, 2);
            faultIs("la1a" + sign, 4);
            faultIs("@0x" + sign, 3);
        }
        faultIs("xxx", 1);
        faultIs("1!!", 1);
        faultIs("+1!e", 2);
        faultIs("+!e1", 1);
        faultIs("l3e", 1);
        faultIs("?x@3!", 3);
    }

    private static void moreMustCome() {
        sentence("or the number of signs, if more must come");
        faultIs("", 0);
        String[] heads = {"n", "*", "-", "@0", "@1", "@2", "+", "la", "lb", "lc", "ld", "?"};
        int[] terms = {1, 1, 1, 1, 1, 1, 2, 2, 2, 2, 2, 3};
        for (int i = 0; i < heads.length; i++) {
            for (int count = 0; count <= terms[i] + 1; count++) {
                String told = heads[i] + "1".repeat(count);
                int fault = count < terms[i] ? told.length() : count == terms[i] ? NONE : heads[i].length() + terms[i];
                faultIs(told, fault);
                faultIs("+" + told, count <= terms[i] ? told.length() + 1 : NONE);
                faultIs("-" + told, count < terms[i] ? told.length() + 1 : count == terms[i] ? NONE : fault + 1);
            }
        }
        faultIs("l", 1);
        faultIs("@", 1);
        faultIs("+l", 2);
        faultIs("+1@", 3);
        faultIs("?+12-3", 6);
    }

    private static void faultsOfTheFullText() {
        sentence("THE FAULT of 40 signs");
        String head = "-".repeat(38);
        faultIs(head + "-7", NONE);
        faultIs(head + "--", 40);
        faultIs(head + "77", 39);
        faultIs(head + "-!", 39);
        faultIs(head + "@0", 40);
        faultIs(head + "@3", 39);
        faultIs(head + "-@", 40);
        faultIs(head + "-l", 40);
        faultIs(head + "!7", 38);
        faultIs(head + "7", NONE);
        RegionStack x = saying(0, head + "-7");
        due("parts(0, 0) of 40 PARTS", x.parts(0, 0), 40);
        kindsAre(x, 0, "0".repeat(40));
        x.say(0, 'x');
        due("THE FAULT behind a sign too many", x.fault(0), NONE);
        faultIs("+1".repeat(19) + "+1", 40);
        faultIs("+1".repeat(19) + "1", NONE);
        faultIs("?".repeat(13) + "1".repeat(27), NONE);
        faultIs("?".repeat(13) + "1".repeat(26), 39);
        faultIs("?".repeat(12) + "1".repeat(26), 37);
    }

    private static void partsAreTermsOnly() {
        sentence("PARTS of a TERM are all TERMS in it, and itself; each has the place of its first sign");
        String[] texts = {"7", "x", "n1", "+12", "?123", "la1a", "@01", "la@11a", "lalb12c", "?+12-3*n4", "@0@1@2x"};
        int[] counts = {1, 1, 2, 3, 4, 3, 2, 4, 5, 9, 4};
        for (int i = 0; i < texts.length; i++) {
            RegionStack x = saying(1, texts[i]);
            due("parts(1, 0) of " + texts[i], x.parts(1, 0), counts[i]);
        }
        kindsAre(saying(0, "lalb12+ab"), 0, "0.0.00000");
        kindsAre(saying(0, "@0@1@2x"), 0, "0.0.0.0");
        RegionStack x = amongCalls(0, "+12");
        for (int what : beyond(0, 1)) {
            due("parts(0, " + what + ")", x.parts(0, what), OUTSIDE);
        }
        x.say(0, 'x');
        due("parts(0, 0) with a FAULT", x.parts(0, 0), NO);
        due("parts(0, 1) with a FAULT", x.parts(0, 1), NO);
        due("parts(1, 0) beside a FAULT", x.parts(1, 0), 2);
        due("parts(1, 1) beside a FAULT", x.parts(1, 1), NONE);
    }

    private static void placesThatThereAre() {
        sentence("The KIND of the PART at a place. OUTSIDE: there is no such place; NO: there is a FAULT; NONE: no PART begins there");
        RegionStack x = amongCalls(0, "la1a");
        for (int place : beyond(0, 3)) {
            due("kind(0, " + place + ")", x.kind(0, place), OUTSIDE);
        }
        due("kind(0, 3)", x.kind(0, 3), 0);
        due("kind(0, 1) at a name", x.kind(0, 1), NONE);
        x.say(0, 'x');
        due("kind(0, 4), behind the TERM", x.kind(0, 4), NO);
        due("kind(0, 1) at a name, with a FAULT", x.kind(0, 1), NO);
        due("kind(0, 5) with a FAULT", x.kind(0, 5), OUTSIDE);
        due("kind(0, -1) with a FAULT", x.kind(0, -1), OUTSIDE);
        x.wipe(0);
        due("kind(0, 0) of no text", x.kind(0, 0), OUTSIDE);
        due("kind(1, 0) beside a FAULT", x.kind(1, 0), 0);
        x = saying(2, "-".repeat(39) + "1");
        due("kind(2, 39)", x.kind(2, 39), 0);
        due("kind(2, 40)", x.kind(2, 40), OUTSIDE);
    }

    private static void lettersAreBound() {
        sentence("A letter is BOUND by the innermost LET of that letter in whose second TERM it lies");
        for (char letter = 'a'; letter <= 'd'; letter++) {
            illIs(0, "" + letter, 0);
            illIs(0, "l" + letter + "1" + letter, NONE);
            illIs(0, "l" + letter + letter + "1", 2);
            char other = letter == 'd' ? 'a' : (char) (letter + 1);
            illIs(0, "l" + other + "1" + letter, 3);
        }
        // The inner LET takes the letter over, in its second TERM only.
        kindsAre(amongCalls(0, "lan1la*aa"), 0, "0.100.010");
        illIs(0, "lan1la*aa", NONE);
        illIs(0, "lan1la*a*a", 8);
        kindsAre(amongCalls(0, "lan1+la2a*a"), 0, "0.1000.0001");
        illIs(0, "lan1+la2a*a", NONE);
        illIs(0, "lan1+la2*a*a", 8);
        // A LET of another letter between them takes nothing over.
        illIs(0, "lan1lb2*a", NONE);
        illIs(0, "la1lbn2*a", 7);
        illIs(0, "la1lb2lc3ld4+a+b+cd", NONE);
        illIs(0, "+la1aa", 5);
    }

    private static void kindsOfParts() {
        sentence("KINDS: of a figure, LOOK, one less, a sum NUMBER; of NEW BOX");
        kindsAre(amongCalls(0, "+*n1-2"), 0, "001000");
        sentence("KINDS of x, a CALL as of the BODY told");
        kindsAre(amongCalls(10, "x"), 0, "1");
        kindsAre(amongCalls(1, "x"), 0, "0");
        kindsAre(amongCalls(10, "@1x"), 0, "0.1");
        kindsAre(amongCalls(1, "@2x"), 0, "1.0");
        kindsAre(amongCalls(11, "@0x"), 0, "1.1");
        sentence("KINDS of a CHOICE, a LET as of the second TERM in it");
        kindsAre(amongCalls(0, "?n1n23"), 0, "110100");
        kindsAre(amongCalls(0, "?n12n3"), 0, "010010");
        kindsAre(amongCalls(0, "?12n3"), 0, "00010");
        kindsAre(amongCalls(0, "?1n23"), 0, "10100");
        kindsAre(amongCalls(0, "lan1a"), 0, "1.101");
        kindsAre(amongCalls(0, "lan12"), 0, "0.100");
        kindsAre(amongCalls(0, "la1n2"), 0, "1.010");
        kindsAre(amongCalls(10, "?1?1lax?12ax3"), 0, "00000.1000110");
        sentence("KINDS of a letter as of the first TERM of the LET by which it is BOUND; NUMBER, if there is none");
        kindsAre(amongCalls(0, "lan1lbalcba"), 0, "1.101.11.11");
        kindsAre(amongCalls(0, "d"), 0, "0");
        kindsAre(amongCalls(0, "lab?b12"), 0, "0.00000");
        kindsAre(amongCalls(1, "?1an1"), 0, "00010");
        kindsAre(amongCalls(1, "na"), 0, "10");
        kindsAre(amongCalls(1, "n+b*n1"), 0, "100010");
        illIs(1, "na", 1);
        illIs(1, "n*a", 1);
        sentence("KINDS, behind a change of a BODY's KINDS");
        RegionStack x = amongCalls(10, "?1x@2x");
        kindsAre(x, 0, "1011.1");
        x.body(0, 0, 0);
        kindsAre(x, 0, "0001.0");
        x.body(2, 0, 0);
        kindsAre(x, 0, "0000.0");
    }

    private static void whatIsIll() {
        sentence("A PART is ILL, if it is a letter that is not BOUND");
        illIs(0, "+la1aa", 5);
        illIs(0, "+la1a2", NONE);
        sentence("NEW, one less, a sum, a CHOICE, and the TERM in it is no NUMBER");
        illIs(1, "n1", NONE);
        illIs(1, "nn1", 0);
        illIs(0, "-1", NONE);
        illIs(0, "-n1", 0);
        illIs(0, "+12", NONE);
        illIs(0, "+n12", 0);
        illIs(0, "+1n2", 0);
        illIs(0, "+n1n2", 0);
        illIs(0, "?123", NONE);
        illIs(0, "?n123", 0);
        illIs(1, "?1n2n3", NONE);
        illIs(1, "?n1n2n3", 0);
        sentence("LOOK, and the TERM in it is no BOX");
        illIs(0, "*n1", NONE);
        illIs(0, "*1", 0);
        sentence("a CHOICE, and the second and the third one are of two KINDS");
        illIs(0, "?12n3", 0);
        illIs(1, "?1n23", 0);
        illIs(0, "*?1n2n3", NONE);
        illIs(0, "-?12n3", 1);
        sentence("a CALL, and the TERM in it is not of the KIND that BODY is given");
        illIs(0, "@1n1", NONE);
        illIs(0, "@11", 0);
        illIs(1, "@21", NONE);
        illIs(1, "@2n1", 0);
        illIs(0, "@01", NONE);
        illIs(0, "@0n1", 0);
        illIs(0, "-@1@2x", NONE);
        illIs(0, "-@1*@2x", 1);
    }

    private static void theWholeTermIsIll() {
        sentence("The whole TERM is ILL, too, if it is not of the KIND that the BODY gives");
        illIs(0, "x", NONE);
        illIs(1, "x", 0);
        illIs(10, "x", 0);
        illIs(11, "x", NONE);
        illIs(0, "n1", 0);
        illIs(1, "n1", NONE);
        illIs(1, "+1-n2", 0);
        illIs(0, "+1-n2", 2);
        sentence("a PART that is ILL for more than one reason");
        illIs(1, "a", 0);
        illIs(1, "-n1", 0);
        illIs(1, "+n12", 0);
        illIs(1, "+1n2", 0);
        illIs(0, "+n1n2", 0);
        illIs(1, "+n1n2", 0);
        illIs(0, "nn1", 0);
        illIs(1, "*1", 0);
        illIs(1, "?123", 0);
        illIs(1, "?12n3", 0);
        illIs(0, "?1n23", 0);
        illIs(0, "?n12n3", 0);
        illIs(1, "?n12n3", 0);
        illIs(1, "@11", 0);
        illIs(0, "@2n1", 0);
        sentence("the least place of an ILL one (1; NONE)");
        illIs(0, "+-n1-n2", 1);
        illIs(0, "+*1b", 1);
        illIs(0, "+1+2+a-n3", 5);
        illIs(0, "-".repeat(39) + "a", 39);
    }

    private static void whetherItIsWell() {
        sentence("A BODY is WELL, if it has no FAULT, and no ILL PART; the PROGRAM is WELL, if all three BODIES are");
        for (int body = 0; body < 3; body++) {
            RegionStack x = program(0, "x", 0, "x", 0, "x");
            due("well()", x.well(), 1);
            x.wipe(body);
            due("well() without a text of " + body, x.well(), 0);
            x.say(body, '-');
            due("well() while more must come in " + body, x.well(), 0);
            x.say(body, 'a');
            due("well() with an ILL PART of " + body, x.well(), 0);
            due("parts(" + body + ", 1)", x.parts(body, 1), 1);
            x.wipe(body);
            x.say(body, 'x');
            due("well() again", x.well(), 1);
            x.say(body, 'x');
            due("well() with a sign behind the TERM of " + body, x.well(), 0);
            text(x, body, "x");
            x.body(body, 0, 1);
            due("well() while " + body + " does not give what it is to give", x.well(), 0);
            x.body(body, 1, 1);
            due("well() with both KINDS of " + body + " changed", x.well(), 1);
        }
        RegionStack x = program(0, "@1x", 0, "x", 0, "x");
        x.body(1, 1, 0);
        text(x, 1, "*x");
        due("well() with a CALL that gives what is not asked for", x.well(), 0);
        due("parts(0, 1)", x.parts(0, 1), 0);
        due("parts(1, 1)", x.parts(1, 1), NONE);
    }

    public static void main(String[] args) {
        aNewObject();
        objectsAreApart();
        bodiesAre0To2();
        kindsAre0And1();
        upTo40Signs();
        codes33To126();
        wipeAnswersHowMany();
        signsThatBeginATerm();
        namesOfLetAndCall();
        nothingBehindTheTerm();
        moreMustCome();
        faultsOfTheFullText();
        partsAreTermsOnly();
        placesThatThereAre();
        lettersAreBound();
        kindsOfParts();
        whatIsIll();
        theWholeTermIsIll();
        whetherItIsWell();
        end();
    }
}
