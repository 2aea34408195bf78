import java.util.ArrayList;
import java.util.Arrays;
import java.util.List;

/**
 * A second RegionStack, written from the document in another way: trees of objects, recursion, all
 * PASSES and all EFFECTS tried, and a run that fails where it looks into a box that is gone.
 */
final class Reference {
    static final int NONE = -6, UNKNOWN = -1, OUTSIDE = -2, STATE = -3, FULL = -4, NO = -5;

    static final class Part {
        int place;
        char sign;
        char name;
        Part up;
        final List<Part> terms = new ArrayList<>();
        int number = NONE;

        boolean contains(Part other) {
            for (Part p = other; p != null; p = p.up) {
                if (p == this) {
                    return true;
                }
            }
            return false;
        }

        int size() {
            int size = 1;
            for (Part term : terms) {
                size += term.size();
            }
            return size;
        }
    }

    /** A region that is open, or was. */
    static final class Space {
        final List<Box> boxes = new ArrayList<>();
        boolean spread;
    }

    static final class Box {
        final int holds;
        boolean gone;

        Box(int holds) {
            this.holds = holds;
        }
    }

    static final class NotKnown extends Exception {
        private static final long serialVersionUID = 1L;
    }

    /** The sign that can not stand there, or the end of the text. */
    static final class Fault extends Exception {
        private static final long serialVersionUID = 1L;
        final int place;

        Fault(int place) {
            this.place = place;
        }
    }

    private String[] texts = {"", "", ""};
    private int[] given = new int[3];
    private int[] gives = new int[3];
    private final String[][] keptTexts = new String[2][];
    private final int[][] keptGiven = new int[2][];
    private final int[][] keptGives = new int[2][];

    // ---- reading

    private int at;

    private Part readTerm(String text, Part up) throws Fault {
        if (at >= text.length()) {
            throw new Fault(text.length());
        }
        Part part = new Part();
        part.place = at;
        part.sign = text.charAt(at);
        part.up = up;
        int terms = "0123456789xabcd".indexOf(part.sign) >= 0 ? 0
            : "n*-@".indexOf(part.sign) >= 0 ? 1
            : "+l".indexOf(part.sign) >= 0 ? 2
            : part.sign == '?' ? 3 : -1;
        if (terms < 0) {
            throw new Fault(at);
        }
        at++;
        if (part.sign == 'l' || part.sign == '@') {
            String names = part.sign == 'l' ? "abcd" : "012";
            if (at >= text.length() || names.indexOf(text.charAt(at)) < 0) {
                throw new Fault(at);
            }
            part.name = text.charAt(at);
            at++;
        }
        for (int i = 0; i < terms; i++) {
            part.terms.add(readTerm(text, part));
        }
        return part;
    }

    private Part readBody(int body) throws Fault {
        at = 0;
        Part whole = readTerm(texts[body], null);
        if (at < texts[body].length()) {
            throw new Fault(at);
        }
        return whole;
    }

    private static void collect(Part part, List<Part> all) {
        all.add(part);
        for (Part term : part.terms) {
            collect(term, all);
        }
    }

    private List<Part> partsOf(int body) {
        try {
            List<Part> all = new ArrayList<>();
            collect(readBody(body), all);
            return all;
        } catch (Fault fault) {
            return null;
        }
    }

    private static boolean isLetter(Part part) {
        return part.sign >= 'a' && part.sign <= 'd';
    }

    private static Part letOf(Part letter) {
        Part below = letter;
        for (Part p = letter.up; p != null; p = p.up) {
            if (p.sign == 'l' && p.name == letter.sign && p.terms.get(1) == below) {
                return p;
            }
            below = p;
        }
        return null;
    }

    private int kindOf(int body, Part part) {
        switch (part.sign) {
            case 'n':
                return 1;
            case 'x':
                return given[body];
            case '@':
                return gives[part.name - '0'];
            case '?':
            case 'l':
                return kindOf(body, part.terms.get(1));
            default:
                if (!isLetter(part)) {
                    return 0;
                }
                Part let = letOf(part);
                return let == null ? 0 : kindOf(body, let.terms.get(0));
        }
    }

    private boolean isIll(int body, Part part) {
        int[] kinds = new int[3];
        for (int i = 0; i < part.terms.size(); i++) {
            kinds[i] = kindOf(body, part.terms.get(i));
        }
        boolean ill = part.up == null && kindOf(body, part) != gives[body];
        ill |= isLetter(part) && letOf(part) == null;
        ill |= "n-+?".indexOf(part.sign) >= 0 && kinds[0] != 0;
        ill |= part.sign == '+' && kinds[1] != 0;
        ill |= part.sign == '*' && kinds[0] != 1;
        ill |= part.sign == '?' && kinds[1] != kinds[2];
        ill |= part.sign == '@' && kinds[0] != given[part.name - '0'];
        return ill;
    }

    // ---- regions

    private final List<List<Part>> trees = new ArrayList<>();
    private int passes;
    private int effects;
    private final int[] owns = new int[3];

    private static int find(int[] links, int i) {
        return links[i] == i ? i : find(links, links[i]);
    }

    /** Union-find over places, P at 40 and R at 41. */
    private int[] linksOf(int body, int passSet) {
        int[] links = new int[42];
        for (int i = 0; i < 42; i++) {
            links[i] = i;
        }
        for (Part part : trees.get(body)) {
            if (kindOf(body, part) != 1) {
                continue;
            }
            List<Integer> with = new ArrayList<>();
            if (part.sign == 'x') {
                with.add(40);
            } else if (part.sign == 'l') {
                with.add(part.terms.get(1).place);
            } else if (part.sign == '?') {
                with.add(part.terms.get(1).place);
                with.add(part.terms.get(2).place);
            } else if (part.sign == '@' && (passSet >> (part.name - '0') & 1) == 1) {
                with.add(part.terms.get(0).place);
            } else if (isLetter(part)) {
                with.add(letOf(part).terms.get(0).place);
            }
            if (part.up == null) {
                with.add(41);
            }
            for (int other : with) {
                links[find(links, part.place)] = find(links, other);
            }
        }
        return links;
    }

    private int passesUnder(int passSet) {
        int found = 0;
        for (int body = 0; body < 3; body++) {
            int[] links = linksOf(body, passSet);
            if (given[body] == 1 && gives[body] == 1 && find(links, 40) == find(links, 41)) {
                found |= 1 << body;
            }
        }
        return found;
    }

    private void number(int body) {
        int[] links = linksOf(body, passes);
        int[] numbers = new int[42];
        Arrays.fill(numbers, NONE);
        if (gives[body] == 1) {
            numbers[find(links, 41)] = 1;
        }
        if (given[body] == 1) {
            numbers[find(links, 40)] = 0;
        }
        int next = 2;
        for (Part part : trees.get(body)) {
            part.number = NONE;
            if (kindOf(body, part) == 1) {
                int root = find(links, part.place);
                if (numbers[root] == NONE) {
                    numbers[root] = next++;
                }
                part.number = numbers[root];
            }
        }
        owns[body] = next - 2;
    }

    private boolean isPass(int body) {
        return (passes >> body & 1) == 1;
    }

    /** The regions into which a part puts, or looks, as bits, if the bodies have these effects. */
    private static long uses(Part part, int allEffects, boolean puts) {
        if (part.sign == 'n' && puts) {
            return 1L << part.number;
        }
        if (part.sign == '*' && !puts) {
            return 1L << part.terms.get(0).number;
        }
        long found = 0;
        if (part.sign == '@') {
            int does = allEffects >> (4 * (part.name - '0')) & 15;
            if ((does & (puts ? 1 : 2)) != 0) {
                found |= 1L << part.terms.get(0).number;
            }
            if ((does & (puts ? 4 : 8)) != 0) {
                found |= 1L << part.number;
            }
        }
        return found;
    }

    private int effectsUnder(int allEffects) {
        int found = 0;
        for (int body = 0; body < 3; body++) {
            long puts = 0;
            long looks = 0;
            for (Part part : trees.get(body)) {
                puts |= uses(part, allEffects, true);
                looks |= uses(part, allEffects, false);
            }
            int r = isPass(body) ? 0 : 1;
            int effect = 0;
            effect += given[body] == 1 && (puts & 1) != 0 ? 1 : 0;
            effect += given[body] == 1 && (looks & 1) != 0 ? 2 : 0;
            effect += gives[body] == 1 && (puts >> r & 1) != 0 ? 4 : 0;
            effect += gives[body] == 1 && (looks >> r & 1) != 0 ? 8 : 0;
            found |= effect << (4 * body);
        }
        return found;
    }

    private boolean isWell() {
        trees.clear();
        for (int body = 0; body < 3; body++) {
            List<Part> all = partsOf(body);
            if (all == null) {
                return false;
            }
            for (Part part : all) {
                if (isIll(body, part)) {
                    return false;
                }
            }
            trees.add(all);
        }
        return true;
    }

    private boolean settled;
    private boolean settledWell;

    private boolean settle() {
        if (settled) {
            return settledWell;
        }
        settled = true;
        settledWell = isWell();
        if (!settledWell) {
            return false;
        }
        int best = -1;
        for (int set = 0; set < 8; set++) {
            if (passesUnder(set) == set && (best < 0 || Integer.bitCount(set) < Integer.bitCount(best))) {
                best = set;
            }
        }
        passes = best;
        for (int body = 0; body < 3; body++) {
            number(body);
        }
        best = -1;
        for (int set = 0; set < 4096; set++) {
            boolean fewer = best < 0 || Integer.bitCount(set) < Integer.bitCount(best);
            if (fewer && effectsUnder(set) == set) {
                best = set;
            }
        }
        effects = best;
        return true;
    }

    private static boolean touchesIt(Part part, int region) {
        boolean uses = part.sign == '*' || part.sign == '@';
        return part.number == region || uses && part.terms.get(0).number == region;
    }

    private Part homeOf(int body, int region) {
        Part best = null;
        for (Part around : trees.get(body)) {
            boolean all = true;
            for (Part part : trees.get(body)) {
                all &= !touchesIt(part, region) || around.contains(part);
            }
            if (all && (best == null || around.size() < best.size())) {
                best = around;
            }
        }
        return best;
    }

    // ---- runs

    static final class Frame {
        int body;
        Object x;
        int within;
        final Space[] spaces = new Space[50];
        final Object[] letters = new Object[4];
    }

    final class Going {
        final List<Space> open = new ArrayList<>();
        int[] tallies = new int[8];
        int mostWords;
        int plainWords;

        Space openOne() {
            Space space = new Space();
            open.add(space);
            tallies[5]++;
            tallies[4] = Math.max(tallies[4], open.size());
            return space;
        }

        void close(Space space) {
            open.remove(space);
            for (Box box : space.boxes) {
                box.gone = true;
            }
        }

        Box put(Space space, int number) throws NotKnown {
            if (!open.contains(space)) {
                throw new AssertionError("put into a region that is not open");
            }
            if (++tallies[2] > 300) {
                throw new NotKnown();
            }
            Box box = new Box(number);
            space.boxes.add(box);
            plainWords += number < 10 ? 1 : 2;
            if (number >= 10 && !space.spread) {
                space.spread = true;
                tallies[6]++;
            }
            int boxes = 0;
            int words = 0;
            for (Space one : open) {
                boxes += one.boxes.size();
                words += one.boxes.size() * (one.spread ? 2 : 1);
            }
            tallies[3] = Math.max(tallies[3], boxes);
            mostWords = Math.max(mostWords, words);
            return box;
        }

        Object evaluate(Frame frame, Part part) throws NotKnown {
            if (++tallies[1] > 3000) {
                throw new NotKnown();
            }
            List<Space> mine = new ArrayList<>();
            for (int own = 2; own < 2 + owns[frame.body]; own++) {
                if (homeOf(frame.body, own) == part) {
                    frame.spaces[own] = openOne();
                    mine.add(frame.spaces[own]);
                }
            }
            Object value = valueOf(frame, part);
            for (Space space : mine) {
                close(space);
            }
            return value;
        }

        private Object valueOf(Frame frame, Part part) throws NotKnown {
            if (part.sign == 'x') {
                return frame.x;
            }
            if (isLetter(part)) {
                return frame.letters[part.sign - 'a'];
            }
            if (part.terms.isEmpty()) {
                return part.sign - '0';
            }
            Object first = evaluate(frame, part.terms.get(0));
            switch (part.sign) {
                case 'n':
                    return put(frame.spaces[part.number], (Integer) first);
                case '*':
                    return look((Box) first);
                case '-':
                    return (Integer) first == 0 ? 0 : (Integer) first - 1;
                case '+':
                    return ((Integer) first + (Integer) evaluate(frame, part.terms.get(1))) % 1000;
                case '?':
                    return evaluate(frame, part.terms.get((Integer) first != 0 ? 1 : 2));
                case 'l':
                    Object before = frame.letters[part.name - 'a'];
                    frame.letters[part.name - 'a'] = first;
                    Object value = evaluate(frame, part.terms.get(1));
                    frame.letters[part.name - 'a'] = before;
                    return value;
                default:
                    return called(frame, part, first);
            }
        }

        private Object called(Frame frame, Part part, Object first) throws NotKnown {
            Frame next = new Frame();
            next.body = part.name - '0';
            next.x = first;
            next.within = frame.within + 1;
            if (next.within > 12) {
                throw new NotKnown();
            }
            tallies[7]++;
            if (gives[next.body] == 1) {
                next.spaces[1] = frame.spaces[part.number];
            }
            if (given[next.body] == 1) {
                next.spaces[0] = frame.spaces[part.terms.get(0).number];
            }
            if (isPass(next.body) && next.spaces[0] != next.spaces[1]) {
                throw new AssertionError("a PASS with two regions");
            }
            return evaluate(next, trees.get(next.body).get(0));
        }

        int look(Box box) {
            if (box.gone) {
                throw new AssertionError("looked into a box that is gone");
            }
            return box.holds;
        }

        void start(int body, int n) throws NotKnown {
            Frame frame = new Frame();
            frame.body = body;
            frame.x = n;
            if (given[body] == 1) {
                frame.spaces[0] = openOne();
                frame.x = put(frame.spaces[0], n);
            }
            if (gives[body] == 1 && !isPass(body)) {
                frame.spaces[1] = openOne();
            }
            Object value = evaluate(frame, trees.get(body).get(0));
            tallies[0] = value instanceof Box ? look((Box) value) : (Integer) value;
        }
    }

    // ---- the face

    private static boolean noBody(int body) {
        return body < 0 || body > 2;
    }

    private static boolean off(int number, int most) {
        return number < 0 || number > most;
    }

    int body(int body, int newGiven, int newGives) {
        if (noBody(body)) {
            return UNKNOWN;
        }
        if (off(newGiven, 1) || off(newGives, 1)) {
            return OUTSIDE;
        }
        int before = given[body] * 10 + gives[body];
        given[body] = newGiven;
        gives[body] = newGives;
        settled = false;
        return before;
    }

    int say(int body, int sign) {
        if (noBody(body)) {
            return UNKNOWN;
        }
        if (sign < 33 || sign > 126) {
            return OUTSIDE;
        }
        if (texts[body].length() == 40) {
            return FULL;
        }
        texts[body] += (char) sign;
        settled = false;
        return texts[body].length();
    }

    int wipe(int body) {
        if (noBody(body)) {
            return UNKNOWN;
        }
        int before = texts[body].length();
        texts[body] = "";
        settled = false;
        return before;
    }

    int fault(int body) {
        if (noBody(body)) {
            return UNKNOWN;
        }
        try {
            readBody(body);
            return NONE;
        } catch (Fault fault) {
            return fault.place;
        }
    }

    int parts(int body, int what) {
        if (noBody(body)) {
            return UNKNOWN;
        }
        if (off(what, 1)) {
            return OUTSIDE;
        }
        List<Part> all = partsOf(body);
        if (all == null) {
            return NO;
        }
        if (what == 0) {
            return all.size();
        }
        for (Part part : all) {
            if (isIll(body, part)) {
                return part.place;
            }
        }
        return NONE;
    }

    int kind(int body, int place) {
        if (noBody(body)) {
            return UNKNOWN;
        }
        if (off(place, texts[body].length() - 1)) {
            return OUTSIDE;
        }
        List<Part> all = partsOf(body);
        if (all == null) {
            return NO;
        }
        for (Part part : all) {
            if (part.place == place) {
                return kindOf(body, part);
            }
        }
        return NONE;
    }

    int well() {
        return settle() ? 1 : 0;
    }

    int tells(int body, int what) {
        if (noBody(body)) {
            return UNKNOWN;
        }
        if (off(what, 2)) {
            return OUTSIDE;
        }
        if (!settle()) {
            return NO;
        }
        return what == 0 ? (isPass(body) ? 1 : 0) : what == 1 ? effects >> (4 * body) & 15 : owns[body];
    }

    int region(int body, int place) {
        if (noBody(body)) {
            return UNKNOWN;
        }
        if (off(place, texts[body].length() - 1)) {
            return OUTSIDE;
        }
        if (!settle()) {
            return NO;
        }
        for (Part part : trees.get(body)) {
            if (part.place == place) {
                return part.number;
            }
        }
        return NONE;
    }

    int home(int body, int region) {
        if (noBody(body)) {
            return UNKNOWN;
        }
        if (!settle()) {
            return NO;
        }
        if (region < 2 || region >= 2 + owns[body]) {
            return OUTSIDE;
        }
        return homeOf(body, region).place;
    }

    int touches(int body, int region, int what) {
        if (noBody(body)) {
            return UNKNOWN;
        }
        if (off(region, 99) || off(what, 2)) {
            return OUTSIDE;
        }
        if (!settle()) {
            return NO;
        }
        int count = 0;
        for (Part part : trees.get(body)) {
            boolean counts = what == 0 ? touchesIt(part, region)
                : region < 60 && (uses(part, effects, what == 1) >> region & 1) == 1;
            count += counts ? 1 : 0;
        }
        return count;
    }

    private Going going;

    private int refusal(int body, int n, int what, int mostWhat) {
        if (noBody(body)) {
            return UNKNOWN;
        }
        if (off(n, 999) || off(what, mostWhat)) {
            return OUTSIDE;
        }
        if (!settle()) {
            return NO;
        }
        going = new Going();
        try {
            going.start(body, n);
            return 0;
        } catch (NotKnown notKnown) {
            return STATE;
        }
    }

    int run(int body, int n, int what) {
        int refusal = refusal(body, n, what, 7);
        return refusal != 0 ? refusal : going.tallies[what];
    }

    int words(int body, int n, int what) {
        int refusal = refusal(body, n, what, 1);
        return refusal != 0 ? refusal : what == 0 ? going.mostWords : going.plainWords;
    }

    int mixed(int body, int n) {
        int refusal = refusal(body, n, 0, 0);
        if (refusal != 0) {
            return refusal;
        }
        return going.plainWords == 0 ? 0 : Float.floatToIntBits((float) going.mostWords / (float) going.plainWords);
    }

    int image(int n) {
        if (off(n, 1)) {
            return OUTSIDE;
        }
        keptTexts[n] = texts.clone();
        keptGiven[n] = given.clone();
        keptGives[n] = gives.clone();
        return 1;
    }

    int restore(int n) {
        if (off(n, 1)) {
            return OUTSIDE;
        }
        if (keptTexts[n] == null) {
            return STATE;
        }
        texts = keptTexts[n].clone();
        given = keptGiven[n].clone();
        gives = keptGives[n].clone();
        settled = false;
        return 1;
    }

    int told(int what) {
        if (what >= 0 && what <= 2) {
            return texts[what].length();
        }
        if (what >= 10 && what <= 12) {
            return given[what - 10] * 10 + gives[what - 10];
        }
        for (int body = 0; body < 3; body++) {
            for (int place = 0; place < texts[body].length(); place++) {
                if (what == 100 * (body + 1) + place) {
                    return texts[body].charAt(place);
                }
            }
        }
        return OUTSIDE;
    }
}
