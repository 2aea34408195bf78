import java.util.ArrayList;
import java.util.List;

/** All that an object answers without being changed, each answer with its call. */
final class Face {
    private static final int[] NUMBERS = {3, 0, 11};

    private final RegionStack x;
    private final List<String> answers = new ArrayList<>();

    private Face(RegionStack x) {
        this.x = x;
    }

    /** Some 200 calls, and three for each sign. */
    static List<String> of(RegionStack x) {
        Face face = new Face(x);
        for (int body = 0; body < 3; body++) {
            face.runs(body);
        }
        for (int body = 0; body < 3; body++) {
            face.texts(body);
            face.regions(body);
        }
        face.note("well()", x.well());
        return face.answers;
    }

    private void note(String call, int answer) {
        answers.add(call + " answers " + answer);
    }

    private void texts(int body) {
        int count = x.told(body);
        note("told(" + body + ")", count);
        note("told(" + (10 + body) + ")", x.told(10 + body));
        note("fault(" + body + ")", x.fault(body));
        note("parts(" + body + ", 0)", x.parts(body, 0));
        note("parts(" + body + ", 1)", x.parts(body, 1));
        for (int place = 0; place <= count; place++) {
            note("told(" + (100 * body + 100 + place) + ")", x.told(100 * body + 100 + place));
            note("kind(" + body + ", " + place + ")", x.kind(body, place));
            note("region(" + body + ", " + place + ")", x.region(body, place));
        }
    }

    private void regions(int body) {
        for (int what = 0; what <= 2; what++) {
            note("tells(" + body + ", " + what + ")", x.tells(body, what));
        }
        for (int region = 0; region <= 4; region++) {
            note("home(" + body + ", " + region + ")", x.home(body, region));
            for (int what = 0; what <= 2; what++) {
                note("touches(" + body + ", " + region + ", " + what + ")", x.touches(body, region, what));
            }
        }
    }

    private void runs(int body) {
        for (int n : NUMBERS) {
            for (int what = 0; what <= 7; what++) {
                note("run(" + body + ", " + n + ", " + what + ")", x.run(body, n, what));
            }
            note("words(" + body + ", " + n + ", 0)", x.words(body, n, 0));
            note("words(" + body + ", " + n + ", 1)", x.words(body, n, 1));
            note("mixed(" + body + ", " + n + ")", x.mixed(body, n));
        }
    }
}
