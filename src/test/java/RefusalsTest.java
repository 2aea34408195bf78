import java.util.ArrayList;
import java.util.List;

/**
 * The first row of the document's Terms: which refused answer comes first where several fit, and that
 * a refused call changes nothing: behind it all is answered as by an object to which it was not made.
 */
public final class RefusalsTest extends Asks {
    /** Objects with which calls are refused for different reasons. */
    private enum Made {
        /** Nothing is said. */
        NEW,
        /** Regions and runs are there, and IMAGE 0; body 2 is FULL. */
        WELL,
        /** A FAULT in body 1. */
        FAULTY,
        /** No FAULT, but an ILL PART of body 2; IMAGE 1 is kept. */
        ILL,
        /** WELL, but no RUN of body 0 is known; both IMAGES are kept. */
        ENDLESS;

        RegionStack make() {
            switch (this) {
                case NEW:
                    return new RegionStack();
                case WELL:
                    return well();
                case FAULTY:
                    return program(10, "lan3+*a*x", 11, "n!", 11, "x");
                case ILL:
                    return ill();
                default:
                    return endless();
            }
        }

        private static RegionStack well() {
            RegionStack x = program(0, "x", 0, "", 0, "x");
            x.image(0);
            text(x, 0, "lan3+*a*@1x");
            x.body(0, 1, 0);
            text(x, 1, "?*xxn+*x9");
            x.body(1, 1, 1);
            text(x, 2, "-".repeat(39) + "7");
            x.run(0, 3, 0);
            return x;
        }

        private static RegionStack ill() {
            RegionStack x = program(1, "nx", 10, "*x", 1, "@0x");
            x.run(2, 3, 0);
            x.image(1);
            x.body(2, 0, 0);
            return x;
        }

        private static RegionStack endless() {
            RegionStack x = program(10, "*@1x", 11, "n*x", 1, "nx");
            x.image(0);
            text(x, 1, "@1n*x");
            x.image(1);
            x.run(0, 3, 0);
            return x;
        }

        boolean isWell() {
            return this == WELL || this == ENDLESS;
        }
    }

    private interface Call {
        int on(RegionStack x);
    }

    private static final class Refused {
        final String told;
        final int due;
        final Call call;

        Refused(String told, int due, Call call) {
            this.told = told;
            this.due = due;
            this.call = call;
        }
    }

    private final List<Refused> calls = new ArrayList<>();

    private void refused(String told, int due, Call call) {
        calls.add(new Refused(told, due, call));
    }

    /** With numbers that fit, and with others that do not: UNKNOWN is the first. */
    private void unknownOnes() {
        for (int body : beyond(0, 2)) {
            for (int other : new int[] {0, 1, 120, -1, 5000}) {
                String more = body + ", " + other + ")";
                refused("body(" + body + ", 1, " + other + ")", UNKNOWN, x -> x.body(body, 1, other));
                refused("body(" + body + ", " + other + ", 0)", UNKNOWN, x -> x.body(body, other, 0));
                refused("say(" + more, UNKNOWN, x -> x.say(body, other));
                refused("parts(" + more, UNKNOWN, x -> x.parts(body, other));
                refused("kind(" + more, UNKNOWN, x -> x.kind(body, other));
                refused("tells(" + more, UNKNOWN, x -> x.tells(body, other));
                refused("region(" + more, UNKNOWN, x -> x.region(body, other));
                refused("home(" + more, UNKNOWN, x -> x.home(body, other));
                refused("touches(" + body + ", " + other + ", 0)", UNKNOWN, x -> x.touches(body, other, 0));
                refused("touches(" + body + ", 0, " + other + ")", UNKNOWN, x -> x.touches(body, 0, other));
                refused("run(" + body + ", " + other + ", 0)", UNKNOWN, x -> x.run(body, other, 0));
                refused("run(" + body + ", 0, " + other + ")", UNKNOWN, x -> x.run(body, 0, other));
                refused("words(" + body + ", " + other + ", 0)", UNKNOWN, x -> x.words(body, other, 0));
                refused("words(" + body + ", 0, " + other + ")", UNKNOWN, x -> x.words(body, 0, other));
                refused("mixed(" + more, UNKNOWN, x -> x.mixed(body, other));
            }
            refused("wipe(" + body + ")", UNKNOWN, x -> x.wipe(body));
            refused("fault(" + body + ")", UNKNOWN, x -> x.fault(body));
        }
    }

    /** However the object stands: OUTSIDE is ahead of NO, STATE, and FULL. */
    private void outsideOnes(Made made) {
        for (int body = 0; body < 3; body++) {
            int b = body;
            for (int kind : beyond(0, 1)) {
                refused("body(" + b + ", " + kind + ", 1)", OUTSIDE, x -> x.body(b, kind, 1));
                refused("body(" + b + ", 1, " + kind + ")", OUTSIDE, x -> x.body(b, 1, kind));
                refused("body(" + b + ", 0, " + kind + ")", OUTSIDE, x -> x.body(b, 0, kind));
                refused("parts(" + b + ", " + kind + ")", OUTSIDE, x -> x.parts(b, kind));
                refused("words(" + b + ", 3, " + kind + ")", OUTSIDE, x -> x.words(b, 3, kind));
            }
            for (int sign : beyond(33, 126)) {
                refused("say(" + b + ", " + sign + ")", OUTSIDE, x -> x.say(b, sign));
            }
            for (int place : beyond(0, made.make().told(b) - 1)) {
                refused("kind(" + b + ", " + place + ")", OUTSIDE, x -> x.kind(b, place));
                refused("region(" + b + ", " + place + ")", OUTSIDE, x -> x.region(b, place));
            }
            for (int what : beyond(0, 2)) {
                refused("tells(" + b + ", " + what + ")", OUTSIDE, x -> x.tells(b, what));
                refused("touches(" + b + ", 0, " + what + ")", OUTSIDE, x -> x.touches(b, 0, what));
            }
            for (int region : beyond(0, 99)) {
                refused("touches(" + b + ", " + region + ", 0)", OUTSIDE, x -> x.touches(b, region, 0));
            }
            for (int n : beyond(0, 999)) {
                refused("run(" + b + ", " + n + ", 0)", OUTSIDE, x -> x.run(b, n, 0));
                refused("words(" + b + ", " + n + ", 0)", OUTSIDE, x -> x.words(b, n, 0));
                refused("mixed(" + b + ", " + n + ")", OUTSIDE, x -> x.mixed(b, n));
            }
            for (int what : beyond(0, 7)) {
                refused("run(" + b + ", 3, " + what + ")", OUTSIDE, x -> x.run(b, 3, what));
            }
        }
        for (int image : beyond(0, 1)) {
            refused("image(" + image + ")", OUTSIDE, x -> x.image(image));
            refused("restore(" + image + ")", OUTSIDE, x -> x.restore(image));
        }
        for (int what : new int[] {-1, 3, 9, 13, 99, 141, 199, 241, 299, 341, 400, Integer.MIN_VALUE, Integer.MAX_VALUE}) {
            refused("told(" + what + ")", OUTSIDE, x -> x.told(what));
        }
    }

    /** Of an object that is not WELL: NO is ahead of what else there may be to refuse. */
    private void notWellOnes() {
        for (int body = 0; body < 3; body++) {
            int b = body;
            for (int what = 0; what <= 2; what++) {
                int w = what;
                refused("tells(" + b + ", " + w + ")", NO, x -> x.tells(b, w));
                refused("touches(" + b + ", 0, " + w + ")", NO, x -> x.touches(b, 0, w));
                refused("touches(" + b + ", 99, " + w + ")", NO, x -> x.touches(b, 99, w));
            }
            for (int region : new int[] {Integer.MIN_VALUE, -1, 0, 1, 2, 99, 100, Integer.MAX_VALUE}) {
                refused("home(" + b + ", " + region + ")", NO, x -> x.home(b, region));
            }
            for (int n : new int[] {0, 3, 999}) {
                for (int what = 0; what <= 7; what++) {
                    int w = what;
                    refused("run(" + b + ", " + n + ", " + w + ")", NO, x -> x.run(b, n, w));
                }
                refused("words(" + b + ", " + n + ", 0)", NO, x -> x.words(b, n, 0));
                refused("words(" + b + ", " + n + ", 1)", NO, x -> x.words(b, n, 1));
                refused("mixed(" + b + ", " + n + ")", NO, x -> x.mixed(b, n));
            }
        }
    }

    private void endlessOnes() {
        for (int n : new int[] {0, 3, 999}) {
            for (int what = 0; what <= 7; what++) {
                int w = what;
                refused("run(0, " + n + ", " + w + ")", STATE, x -> x.run(0, n, w));
            }
            refused("words(0, " + n + ", 0)", STATE, x -> x.words(0, n, 0));
            refused("words(0, " + n + ", 1)", STATE, x -> x.words(0, n, 1));
            refused("mixed(0, " + n + ")", STATE, x -> x.mixed(0, n));
        }
    }

    private void onesOf(Made made) {
        if (!made.isWell()) {
            notWellOnes();
        }
        switch (made) {
            case NEW:
                refused("parts(0, 0)", NO, x -> x.parts(0, 0));
                refused("parts(2, 1)", NO, x -> x.parts(2, 1));
                refused("restore(0)", STATE, x -> x.restore(0));
                refused("restore(1)", STATE, x -> x.restore(1));
                break;
            case WELL:
                refused("say(2, 'x')", FULL, x -> x.say(2, 'x'));
                refused("say(2, 33)", FULL, x -> x.say(2, 33));
                refused("say(2, 126)", FULL, x -> x.say(2, 126));
                refused("restore(1)", STATE, x -> x.restore(1));
                for (int region : beyond(2, 2)) {
                    refused("home(0, " + region + ")", OUTSIDE, x -> x.home(0, region));
                }
                refused("home(1, 2)", OUTSIDE, x -> x.home(1, 2));
                break;
            case FAULTY:
                refused("parts(1, 0)", NO, x -> x.parts(1, 0));
                refused("parts(1, 1)", NO, x -> x.parts(1, 1));
                refused("kind(1, 0)", NO, x -> x.kind(1, 0));
                refused("kind(1, 1)", NO, x -> x.kind(1, 1));
                refused("region(1, 1)", NO, x -> x.region(1, 1));
                refused("region(0, 1)", NO, x -> x.region(0, 1));
                refused("restore(0)", STATE, x -> x.restore(0));
                break;
            case ILL:
                refused("region(0, 0)", NO, x -> x.region(0, 0));
                refused("region(2, 1)", NO, x -> x.region(2, 1));
                refused("restore(0)", STATE, x -> x.restore(0));
                break;
            default:
                endlessOnes();
                break;
        }
    }

    /** Calls that change something, made to both: they answer, and do, what is due. */
    private static void goOn(String when, RegionStack x, RegionStack due, Call... calls) {
        for (int i = 0; i < calls.length; i++) {
            due("the change " + i + " " + when, calls[i].on(x), calls[i].on(due));
        }
        areAlike(when + ", and behind changes", x, due);
    }

    private static void changesNothing(Made made, Refused refused) {
        String when = "behind " + refused.told + " of one that is " + made;
        RegionStack x = made.make();
        due(refused.told + " of one that is " + made, refused.call.on(x), refused.due);
        areAlike(when, x, made.make());
        x = made.make();
        refused.call.on(x);
        refused.call.on(x);
        goOn(when, x, made.make(), y -> y.say(0, 'x'), y -> y.say(2, '+'), y -> y.wipe(1), y -> y.say(1, '5'),
            y -> y.body(0, 0, 1), y -> y.body(1, 0, 0), y -> y.body(2, 1, 1));
        x = made.make();
        refused.call.on(x);
        goOn(when, x, made.make(), y -> y.restore(1));
        x = made.make();
        refused.call.on(x);
        goOn(when, x, made.make(), y -> y.restore(0));
    }

    public static void main(String[] args) {
        sentence("Calls that are refused change nothing");
        for (Made made : Made.values()) {
            RefusalsTest test = new RefusalsTest();
            test.unknownOnes();
            test.outsideOnes(made);
            test.onesOf(made);
            for (Refused refused : test.calls) {
                changesNothing(made, refused);
            }
        }
        end();
    }
}
