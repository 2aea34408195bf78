import java.util.List;

/** What tests have in common: answers that are due, and programs told in a line. */
abstract class Asks {
    static final int NONE = -6, UNKNOWN = -1, OUTSIDE = -2, STATE = -3, FULL = -4, NO = -5;

    private static String sentence = "";
    private static int asked = 0;
    private static int wrong = 0;

    /** What the asks behind it are about, told if one of them is not answered as due. */
    static void sentence(String told) {
        sentence = told;
    }

    static void due(String call, int got, int want) {
        asked++;
        if (got != want) {
            wrong++;
            System.out.println(sentence + ": " + call + " answered " + got + ", due is " + want);
        }
    }

    /** To be called last: ends with exit code 1 if something was not as due. */
    static void end() {
        System.out.println(asked + " answers asked, " + wrong + " not as due");
        if (wrong != 0) {
            System.exit(1);
        }
    }

    /** The numbers next to a range on both sides, the ends of int, and some that wrap into it when cut. */
    static int[] beyond(int least, int most) {
        return new int[] {Integer.MIN_VALUE, least - 256, least - 1, most + 1, most + 256, most + 65536, Integer.MAX_VALUE};
    }

    static void text(RegionStack x, int body, String text) {
        x.wipe(body);
        say(x, body, text);
    }

    static void say(RegionStack x, int body, String signs) {
        for (int i = 0; i < signs.length(); i++) {
            x.say(body, signs.charAt(i));
        }
    }

    /** Kinds as body() tells them, 10 * given + gives. */
    static RegionStack program(int kinds0, String text0, int kinds1, String text1, int kinds2, String text2) {
        RegionStack x = new RegionStack();
        x.body(0, kinds0 / 10, kinds0 % 10);
        x.body(1, kinds1 / 10, kinds1 % 10);
        x.body(2, kinds2 / 10, kinds2 % 10);
        say(x, 0, text0);
        say(x, 1, text1);
        say(x, 2, text2);
        return x;
    }

    /** A program of which body 0 alone is of interest. */
    static RegionStack one(int kinds, String text) {
        return program(kinds, text, 0, "x", 0, "x");
    }

    /** due: a sign for each place, a figure for its KIND, or . for NONE. */
    static void kindsAre(RegionStack x, int body, String due) {
        for (int place = 0; place < due.length(); place++) {
            due("kind(" + body + ", " + place + ")", x.kind(body, place), dueAt(due, place));
        }
        due("kind(" + body + ", " + due.length() + ")", x.kind(body, due.length()), OUTSIDE);
    }

    /** due: a sign for each place, a figure for its REGION, or . for NONE. */
    static void regionsAre(RegionStack x, int body, String due) {
        for (int place = 0; place < due.length(); place++) {
            due("region(" + body + ", " + place + ")", x.region(body, place), dueAt(due, place));
        }
        due("region(" + body + ", " + due.length() + ")", x.region(body, due.length()), OUTSIDE);
    }

    private static int dueAt(String due, int place) {
        return due.charAt(place) == '.' ? NONE : due.charAt(place) - '0';
    }

    /** Of the run of body 0, in the order of run()'s what. */
    static void runIs(RegionStack x, int n, int... due) {
        for (int what = 0; what < due.length; what++) {
            due("run(0, " + n + ", " + what + ")", x.run(0, n, what), due[what]);
        }
    }

    static void runIsNotKnown(RegionStack x, int n) {
        for (int what = 0; what <= 7; what++) {
            due("run(0, " + n + ", " + what + ")", x.run(0, n, what), STATE);
        }
        due("words(0, " + n + ", 0)", x.words(0, n, 0), STATE);
        due("words(0, " + n + ", 1)", x.words(0, n, 1), STATE);
        due("mixed(0, " + n + ")", x.mixed(0, n), STATE);
    }

    /** Two objects that are to answer alike, the second one being as is due. */
    static void areAlike(String when, RegionStack x, RegionStack due) {
        List<String> answers = Face.of(x);
        List<String> dues = Face.of(due);
        asked++;
        if (answers.equals(dues)) {
            return;
        }
        wrong++;
        for (int i = 0; i < answers.size() && i < dues.size(); i++) {
            if (!answers.get(i).equals(dues.get(i))) {
                System.out.println(sentence + ": " + when + ", " + answers.get(i) + ", due is: " + dues.get(i));
                return;
            }
        }
        System.out.println(sentence + ": " + when + ", there are " + answers.size() + " answers, due are " + dues.size());
    }
}
