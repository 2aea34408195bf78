/** A RegionStack and a Reference that are told the same; each answer is compared. */
final class Pair {
    final RegionStack stack = new RegionStack();
    final Reference reference = new Reference();
    final StringBuilder told = new StringBuilder();
    int wrong;
    int compared;
    int knownRuns;

    private int same(String call, int got, int want) {
        compared++;
        if (got != want) {
            wrong++;
            System.out.println(told + "\n  " + call + " answered " + got + ", the reference tells " + want);
        }
        return want;
    }

    private void note(String call) {
        told.append(call).append("; ");
    }

    void body(int body, int given, int gives) {
        String call = "body(" + body + ", " + given + ", " + gives + ")";
        note(call);
        same(call, stack.body(body, given, gives), reference.body(body, given, gives));
    }

    int say(int body, int sign) {
        String call = "say(" + body + ", " + sign + ")";
        return same(call, stack.say(body, sign), reference.say(body, sign));
    }

    void text(int body, String text) {
        wipe(body);
        note("text " + body + " " + text);
        for (int i = 0; i < text.length(); i++) {
            say(body, text.charAt(i));
        }
    }

    void wipe(int body) {
        same("wipe(" + body + ")", stack.wipe(body), reference.wipe(body));
    }

    void image(int n) {
        note("image(" + n + ")");
        same("image(" + n + ")", stack.image(n), reference.image(n));
    }

    void restore(int n) {
        note("restore(" + n + ")");
        same("restore(" + n + ")", stack.restore(n), reference.restore(n));
    }

    /** Everything that reading a text tells, a step over each edge. */
    void compareBodies() {
        same("well()", stack.well(), reference.well());
        for (int body = -1; body <= 3; body++) {
            same("fault " + body, stack.fault(body), reference.fault(body));
            for (int what = -1; what <= 2; what++) {
                same("parts " + body + " " + what, stack.parts(body, what), reference.parts(body, what));
            }
            for (int place = -1; place <= 41; place++) {
                same("kind " + body + " " + place, stack.kind(body, place), reference.kind(body, place));
            }
        }
        for (int what = -1; what <= 420; what++) {
            same("told " + what, stack.told(what), reference.told(what));
        }
    }

    void compareRegions() {
        for (int body = -1; body <= 3; body++) {
            for (int what = -1; what <= 3; what++) {
                same("tells " + body + " " + what, stack.tells(body, what), reference.tells(body, what));
            }
            for (int place = -1; place <= 41; place++) {
                same("region " + body + " " + place, stack.region(body, place), reference.region(body, place));
            }
            for (int region = -1; region <= 20; region++) {
                same("home " + body + " " + region, stack.home(body, region), reference.home(body, region));
                for (int what = -1; what <= 3; what++) {
                    same("touches " + body + " " + region + " " + what,
                        stack.touches(body, region, what), reference.touches(body, region, what));
                }
            }
        }
    }

    void compareRuns(int n) {
        for (int body = -1; body <= 3; body++) {
            int known = 0;
            for (int what = -1; what <= 8; what++) {
                known = same("run " + body + " " + n + " " + what,
                    stack.run(body, n, what), reference.run(body, n, what)) >= 0 ? 1 : known;
            }
            knownRuns += known;
            for (int what = -1; what <= 2; what++) {
                same("words " + body + " " + n + " " + what, stack.words(body, n, what), reference.words(body, n, what));
            }
            same("mixed " + body + " " + n, stack.mixed(body, n), reference.mixed(body, n));
        }
    }
}
