/** Promises 16 to 18, and the number of calls: each sentence that names a boundary, on both sides of it. */
public final class ImagesEdgesTest extends Asks {
    private static RegionStack first() {
        return program(10, "+*x*n1", 1, "nx", 11, "x");
    }

    /** Not WELL: body 1 has no text. */
    private static RegionStack second() {
        return program(0, "-".repeat(39) + "x", 11, "", 1, "@1n1");
    }

    private static void turnInto(RegionStack x, RegionStack other) {
        for (int body = 0; body < 3; body++) {
            int kinds = other.told(10 + body);
            x.body(body, kinds / 10, kinds % 10);
            x.wipe(body);
            int count = other.told(body);
            for (int place = 0; place < count; place++) {
                x.say(body, other.told(100 * body + 100 + place));
            }
        }
    }

    private static void imagesAre0And1() {
        sentence("All is kept in an IMAGE (0, 1): 1. OUTSIDE");
        for (int image = 0; image < 2; image++) {
            RegionStack x = first();
            due("restore(" + image + ") ahead of image", x.restore(image), STATE);
            due("restore(" + (1 - image) + ") ahead of image", x.restore(1 - image), STATE);
            for (int n : beyond(0, 1)) {
                due("image(" + n + ")", x.image(n), OUTSIDE);
                due("restore(" + n + ")", x.restore(n), OUTSIDE);
            }
            due("restore(" + image + ") behind what was refused", x.restore(image), STATE);
            due("image(" + image + ")", x.image(image), 1);
            due("restore(" + (1 - image) + "), not kept", x.restore(1 - image), STATE);
            due("restore(" + image + ")", x.restore(image), 1);
            due("restore(" + image + ") again", x.restore(image), 1);
            for (int n : beyond(0, 1)) {
                due("restore(" + n + ") behind image", x.restore(n), OUTSIDE);
            }
            due("image(" + image + ") again", x.image(image), 1);
            areAlike("behind its images", x, first());
        }
    }

    private static void itIsAsItWas() {
        sentence("It is as it was when it was kept: 1");
        for (int image = 0; image < 2; image++) {
            RegionStack x = first();
            due("image(" + image + ")", x.image(image), 1);
            areAlike("behind image", x, first());
            x = first();
            x.image(image);
            turnInto(x, second());
            areAlike("behind other texts", x, second());
            x = first();
            x.image(image);
            turnInto(x, second());
            due("restore(" + image + ")", x.restore(image), 1);
            areAlike("behind restore", x, first());
            x = second();
            x.image(image);
            turnInto(x, first());
            due("run(0, 3, 0)", x.run(0, 3, 0), 4);
            due("restore(" + image + ")", x.restore(image), 1);
            due("run(0, 3, 0)", x.run(0, 3, 0), NO);
            due("told(0)", x.told(0), 40);
            due("told(139)", x.told(139), 'x');
            due("a sign too many", x.say(0, 'x'), FULL);
            due("told(1)", x.told(1), 0);
            due("told(200)", x.told(200), OUTSIDE);
            areAlike("behind restore", x, second());
        }
    }

    private static void whatIsKeptStays() {
        sentence("what is kept does not change with what is said behind it");
        RegionStack x = first();
        x.image(0);
        x.say(0, 'x');
        x.wipe(1);
        x.body(2, 0, 0);
        due("restore(0)", x.restore(0), 1);
        x.wipe(0);
        x.say(1, 'x');
        x.body(2, 1, 0);
        due("restore(0) again", x.restore(0), 1);
        areAlike("behind restore", x, first());
        sentence("the two IMAGES are apart");
        x = first();
        x.image(0);
        turnInto(x, second());
        x.image(1);
        x.wipe(0);
        due("restore(0)", x.restore(0), 1);
        due("told(0)", x.told(0), 6);
        due("restore(1)", x.restore(1), 1);
        due("told(0)", x.told(0), 40);
        due("restore(0)", x.restore(0), 1);
        areAlike("behind restore", x, first());
        x = first();
        x.image(1);
        turnInto(x, second());
        x.image(0);
        x.restore(1);
        x.restore(0);
        areAlike("behind restore of the other one", x, second());
        sentence("an IMAGE kept again is the newer one");
        x = first();
        x.image(0);
        turnInto(x, second());
        x.image(0);
        turnInto(x, first());
        due("restore(0)", x.restore(0), 1);
        areAlike("behind restore", x, second());
    }

    private static void imageOfANewObject() {
        sentence("an IMAGE of a new object");
        RegionStack x = new RegionStack();
        due("image(1)", x.image(1), 1);
        turnInto(x, second());
        due("restore(1)", x.restore(1), 1);
        areAlike("behind restore", x, new RegionStack());
        x.restore(1);
        due("say(0, 'x')", x.say(0, 'x'), 1);
    }

    private static void runsAreAsTheyWere() {
        sentence("a RUN behind restore");
        RegionStack x = first();
        due("run(0, 3, 0)", x.run(0, 3, 0), 4);
        x.image(0);
        text(x, 0, "+*x*n5");
        due("run(0, 3, 0)", x.run(0, 3, 0), 8);
        x.restore(0);
        due("run(0, 3, 0)", x.run(0, 3, 0), 4);
        due("words(0, 3, 0)", x.words(0, 3, 0), 2);
        x.body(2, 0, 0);
        due("run(2, 3, 2)", x.run(2, 3, 2), 0);
        x.restore(0);
        due("run(2, 3, 2)", x.run(2, 3, 2), 1);
        due("tells(2, 0)", x.tells(2, 0), 1);
    }

    private static int toldOf(String[] texts, int[] kinds, int what) {
        for (int body = 0; body < 3; body++) {
            int place = what - 100 * (body + 1);
            if (what == body) {
                return texts[body].length();
            }
            if (what == 10 + body) {
                return kinds[body];
            }
            if (place >= 0 && place < texts[body].length()) {
                return texts[body].charAt(place);
            }
        }
        return OUTSIDE;
    }

    private static void whatIsTold() {
        sentence("0, 1, 2: signs; 10 and a BODY: KINDS; 100 times a BODY and 1, and a place: the sign there. OUTSIDE");
        String full = "0123456789abcd!\"#$%&'()~}|{zyxwvutsrqpon";
        int[] kinds = {10, 1, 11};
        for (int shift = 0; shift < 3; shift++) {
            String[] texts = new String[3];
            texts[shift] = full;
            texts[(shift + 1) % 3] = "";
            texts[(shift + 2) % 3] = "!~x";
            RegionStack x = program(kinds[0], texts[0], kinds[1], texts[1], kinds[2], texts[2]);
            for (int what = -4; what <= 445; what++) {
                due("told(" + what + ")", x.told(what), toldOf(texts, kinds, what));
            }
            x = program(kinds[0], texts[0], kinds[1], texts[1], kinds[2], texts[2]);
            int[] far = {Integer.MIN_VALUE, Integer.MIN_VALUE + 1, -1000, -300, -200, -100, -90, -88, -10, 500, 999, 1000, 1100,
                256, 266, 356, 65536, 65546, 65636, Integer.MAX_VALUE, Integer.MAX_VALUE - 47};
            for (int what : far) {
                due("told(" + what + ")", x.told(what), toldOf(texts, kinds, what));
            }
            areAlike("behind what was told", x, program(kinds[0], texts[0], kinds[1], texts[1], kinds[2], texts[2]));
        }
    }

    private static void theCallNumber512() {
        sentence("An object is used for at most 512 calls");
        RegionStack x = program(0, "+@16+@12@11", 0, "?x+@1-x@1-x+*n1+*n1+*n1*n1", 0, "x");
        // 3 of body(), 38 of say(): no RUN is the one ahead of it.
        for (int call = 42; call < 512; call++) {
            due("run(0, " + call + ", 2) as the call " + call, x.run(0, call, 2), 4 * 70);
        }
        due("run(0, 0, 2) as the call 512", x.run(0, 0, 2), 4 * 70);
        x = new RegionStack();
        for (int round = 0; round < 12; round++) {
            for (int count = 1; count <= 40; count++) {
                due("say(1, '-') in round " + round, x.say(1, '-'), count);
            }
            due("say(1, '-') in round " + round, x.say(1, '-'), FULL);
            due("wipe(1) in round " + round, x.wipe(1), 40);
        }
        for (int call = 505; call < 512; call++) {
            due("image(0) as the call " + call, x.image(0), 1);
        }
        due("restore(0) as the call 512", x.restore(0), 1);
    }

    public static void main(String[] args) {
        imagesAre0And1();
        itIsAsItWas();
        whatIsKeptStays();
        imageOfANewObject();
        runsAreAsTheyWere();
        whatIsTold();
        theCallNumber512();
        end();
    }
}
