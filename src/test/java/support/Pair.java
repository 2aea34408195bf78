import java.util.ArrayList;
import java.util.List;

/** A RegionStack and a Reference that are told the same; each answer is compared. */
final class Pair {
    private static final int MOST_CALLS = 512;
    /** The longest text, and a wipe ahead of it. */
    private static final int MOST_CHANGES_AT_ONCE = 50;

    private interface Call {
        int on(RegionStack x);
    }

    final Reference reference = new Reference();
    final StringBuilder told = new StringBuilder();
    int wrong;
    int compared;
    int knownRuns;
    private RegionStack stack = new RegionStack();
    private int calls;
    private final List<Call> changes = new ArrayList<>();

    /** Whether so much can be told still that there are calls left to ask. */
    boolean hasRoom() {
        return changes.size() + MOST_CHANGES_AT_ONCE < MOST_CALLS - MOST_CHANGES_AT_ONCE;
    }

    /** An object past its last call is left for another one that has been told the same. */
    private int same(String call, Call made, int want) {
        if (calls >= MOST_CALLS) {
            stack = new RegionStack();
            for (Call change : changes) {
                change.on(stack);
            }
            calls = changes.size();
        }
        calls++;
        compared++;
        int got = made.on(stack);
        if (got != want) {
            wrong++;
            System.out.println(told + "\n  " + call + " answered " + got + ", the reference tells " + want);
        }
        return want;
    }

    private int change(String call, Call made, int want) {
        same(call, made, want);
        changes.add(made);
        return want;
    }

    private void note(String call) {
        told.append(call).append("; ");
    }

    void body(int body, int given, int gives) {
        String call = "body(" + body + ", " + given + ", " + gives + ")";
        note(call);
        change(call, x -> x.body(body, given, gives), reference.body(body, given, gives));
    }

    void say(int body, int sign) {
        change("say(" + body + ", " + sign + ")", x -> x.say(body, sign), reference.say(body, sign));
    }

    void text(int body, String text) {
        wipe(body);
        note("text " + body + " " + text);
        for (int i = 0; i < text.length(); i++) {
            say(body, text.charAt(i));
        }
    }

    void wipe(int body) {
        change("wipe(" + body + ")", x -> x.wipe(body), reference.wipe(body));
    }

    void image(int n) {
        note("image(" + n + ")");
        change("image(" + n + ")", x -> x.image(n), reference.image(n));
    }

    void restore(int n) {
        note("restore(" + n + ")");
        change("restore(" + n + ")", x -> x.restore(n), reference.restore(n));
    }

    /** Everything that reading a text tells, a step over each edge. */
    void compareBodies() {
        same("well()", x -> x.well(), reference.well());
        for (int i = -1; i <= 3; i++) {
            int body = i;
            same("fault " + body, x -> x.fault(body), reference.fault(body));
            for (int what = -1; what <= 2; what++) {
                int w = what;
                same("parts " + body + " " + w, x -> x.parts(body, w), reference.parts(body, w));
            }
            for (int place = -1; place <= 41; place++) {
                int p = place;
                same("kind " + body + " " + p, x -> x.kind(body, p), reference.kind(body, p));
            }
        }
        for (int what = -1; what <= 420; what++) {
            int w = what;
            same("told " + w, x -> x.told(w), reference.told(w));
        }
    }

    void compareRegions() {
        for (int i = -1; i <= 3; i++) {
            int body = i;
            for (int what = -1; what <= 3; what++) {
                int w = what;
                same("tells " + body + " " + w, x -> x.tells(body, w), reference.tells(body, w));
            }
            for (int place = -1; place <= 41; place++) {
                int p = place;
                same("region " + body + " " + p, x -> x.region(body, p), reference.region(body, p));
            }
            for (int region = -1; region <= 20; region++) {
                int r = region;
                same("home " + body + " " + r, x -> x.home(body, r), reference.home(body, r));
                for (int what = -1; what <= 3; what++) {
                    int w = what;
                    same("touches " + body + " " + r + " " + w,
                        x -> x.touches(body, r, w), reference.touches(body, r, w));
                }
            }
        }
    }

    void compareRuns(int n) {
        for (int i = -1; i <= 3; i++) {
            int body = i;
            String of = " " + body + " " + n;
            int known = 0;
            for (int what = -1; what <= 8; what++) {
                int w = what;
                known = same("run" + of + " " + w, x -> x.run(body, n, w), reference.run(body, n, w)) >= 0 ? 1 : known;
            }
            knownRuns += known;
            for (int what = -1; what <= 2; what++) {
                int w = what;
                same("words" + of + " " + w, x -> x.words(body, n, w), reference.words(body, n, w));
            }
            same("mixed" + of, x -> x.mixed(body, n), reference.mixed(body, n));
        }
    }
}
