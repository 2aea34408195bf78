/** Where boxes live: three bodies of text, the regions found in them, and runs in which regions lie as a stack. */
public final class RegionStack {
    public static final int NONE = -6, UNKNOWN = -1, OUTSIDE = -2, STATE = -3, FULL = -4, NO = -5;

    private static final int BODIES = 3;
    private static final int SIGNS = 40;
    private static final int LEAST_SIGN = 33;
    private static final int MOST_SIGN = 126;
    private static final int IMAGES = 2;
    private static final int NUMBER = 0;
    private static final int BOX = 1;

    private static final int GIVEN_REGION = 0;
    private static final int GIVES_REGION = 1;
    private static final int FIRST_OWN = 2;
    private static final int REGION_NUMBERS = FIRST_OWN + SIGNS;
    private static final int MOST_ASKED_REGION = 99;

    private static final int PUTS_GIVEN = 1;
    private static final int LOOKS_GIVEN = 2;
    private static final int PUTS_GIVES = 4;
    private static final int LOOKS_GIVES = 8;
    private static final int EFFECTS = 4 * BODIES;

    private static final int MOST_NUMBER = 999;
    private static final int MOST_STEPS = 3000;
    private static final int MOST_BOXES = 300;
    private static final int MOST_CALLS_WITHIN = 12;
    private static final int FRAMES = MOST_CALLS_WITHIN + 1;
    private static final int LEAST_WIDE = 10;
    /** Words of a box. */
    private static final int TIGHT = 1;
    private static final int SPREAD = 2;
    /** A part is looked at three times at the most: ahead of, between, and behind the terms in it. */
    private static final int MOST_TURNS = 3 * (MOST_STEPS + 1);

    private static final int TAKEN = 0;

    private final Program program;
    private final Runner runner;
    private final Text[] keptTexts;
    private final boolean[] isKept;

    public RegionStack() {
        runner = new Runner();
        program = runner.program;
        keptTexts = new Text[IMAGES * BODIES];
        for (int i = 0; i < keptTexts.length; i++) {
            keptTexts[i] = new Text();
        }
        isKept = new boolean[IMAGES];
    }

    // ---- 1 bodies

    public int body(int body, int given, int gives) {
        Body told = program.bodyAt(body);
        if (told == null) {
            return UNKNOWN;
        }
        if (!isWithin(given, NUMBER, BOX) || !isWithin(gives, NUMBER, BOX)) {
            return OUTSIDE;
        }
        int before = told.text.bothKinds();
        told.text.given = given;
        told.text.gives = gives;
        program.kindsChanged();
        return before;
    }

    public int say(int body, int sign) {
        Body told = program.bodyAt(body);
        if (told == null) {
            return UNKNOWN;
        }
        if (!isWithin(sign, LEAST_SIGN, MOST_SIGN)) {
            return OUTSIDE;
        }
        if (told.text.count >= SIGNS) {
            return FULL;
        }
        told.text.signs.set(told.text.count, sign);
        told.text.count++;
        textChanged(told);
        return told.text.count;
    }

    public int wipe(int body) {
        Body told = program.bodyAt(body);
        if (told == null) {
            return UNKNOWN;
        }
        int before = told.text.count;
        told.text.count = 0;
        textChanged(told);
        return before;
    }

    public int fault(int body) {
        Body told = program.bodyAt(body);
        return told == null ? UNKNOWN : told.term.faultPlace;
    }

    public int parts(int body, int what) {
        Body told = program.bodyAt(body);
        if (told == null) {
            return UNKNOWN;
        }
        if (!isWithin(what, 0, 1)) {
            return OUTSIDE;
        }
        if (told.term.faultPlace != NONE) {
            return NO;
        }
        return what == 0 ? told.term.partCount : program.firstIll(told.term);
    }

    public int kind(int body, int place) {
        Body told = program.bodyAt(body);
        if (told == null) {
            return UNKNOWN;
        }
        if (!told.text.hasPlace(place)) {
            return OUTSIDE;
        }
        if (told.term.faultPlace != NONE) {
            return NO;
        }
        return told.term.isPart(place) ? told.term.kinds.get(place) : NONE;
    }

    public int well() {
        return program.settle() ? 1 : 0;
    }

    // ---- 2 regions

    public int tells(int body, int what) {
        Body told = program.bodyAt(body);
        if (told == null) {
            return UNKNOWN;
        }
        if (!isWithin(what, 0, 2)) {
            return OUTSIDE;
        }
        if (!program.settle()) {
            return NO;
        }
        if (what == 0) {
            return told.isPass ? 1 : 0;
        }
        return what == 1 ? told.effect : told.ownCount;
    }

    public int region(int body, int place) {
        Body told = program.bodyAt(body);
        if (told == null) {
            return UNKNOWN;
        }
        if (!told.text.hasPlace(place)) {
            return OUTSIDE;
        }
        if (!program.settle()) {
            return NO;
        }
        return told.numbers.get(place);
    }

    public int home(int body, int region) {
        Body told = program.bodyAt(body);
        if (told == null) {
            return UNKNOWN;
        }
        if (!program.settle()) {
            return NO;
        }
        return told.hasOwn(region) ? told.homes.get(region) : OUTSIDE;
    }

    public int touches(int body, int region, int what) {
        Body told = program.bodyAt(body);
        if (told == null) {
            return UNKNOWN;
        }
        if (!isWithin(region, 0, MOST_ASKED_REGION) || !isWithin(what, 0, 2)) {
            return OUTSIDE;
        }
        if (!program.settle()) {
            return NO;
        }
        return told.countOf(program, region, what);
    }

    // ---- 3 runs

    public int run(int body, int n, int what) {
        int refusal = refusalOfRun(body, n, isWithin(what, 0, 7));
        return refusal == TAKEN ? runner.tallyOf(what) : refusal;
    }

    public int words(int body, int n, int what) {
        int refusal = refusalOfRun(body, n, isWithin(what, 0, 1));
        if (refusal != TAKEN) {
            return refusal;
        }
        return what == 0 ? runner.store.mostWords : runner.store.plainWords;
    }

    public int mixed(int body, int n) {
        int refusal = refusalOfRun(body, n, true);
        if (refusal != TAKEN) {
            return refusal;
        }
        return quotientBits(runner.store.mostWords, runner.store.plainWords);
    }

    public int image(int n) {
        if (!isWithin(n, 0, IMAGES - 1)) {
            return OUTSIDE;
        }
        for (int i = 0; i < BODIES; i++) {
            Text kept = keptText(n, i);
            Body body = program.bodyAt(i);
            if (kept != null && body != null) {
                kept.takeFrom(body.text);
            }
        }
        isKept[n] = true;
        return 1;
    }

    public int restore(int n) {
        if (!isWithin(n, 0, IMAGES - 1)) {
            return OUTSIDE;
        }
        if (!isKept[n]) {
            return STATE;
        }
        for (int i = 0; i < BODIES; i++) {
            Text kept = keptText(n, i);
            Body body = program.bodyAt(i);
            if (kept != null && body != null) {
                body.text.takeFrom(kept);
                body.term.read();
            }
        }
        program.kindsChanged();
        return 1;
    }

    public int told(int what) {
        Body counted = program.bodyAt(what);
        if (counted != null) {
            return counted.text.count;
        }
        if (isWithin(what, 10, 10 + BODIES - 1)) {
            Body asked = program.bodyAt(what - 10);
            return asked == null ? OUTSIDE : asked.text.bothKinds();
        }
        if (what < 100) {
            return OUTSIDE;
        }
        Body asked = program.bodyAt(what / 100 - 1);
        if (asked == null || !asked.text.hasPlace(what % 100)) {
            return OUTSIDE;
        }
        return asked.text.signs.get(what % 100);
    }

    private void textChanged(Body body) {
        body.term.read();
        program.kindsChanged();
    }

    private Text keptText(int image, int body) {
        int i = image * BODIES + body;
        return i >= 0 && i < keptTexts.length ? keptTexts[i] : null;
    }

    /** TAKEN when the run was gone through, else the answer that refuses it. */
    private int refusalOfRun(int body, int n, boolean whatFits) {
        if (program.bodyAt(body) == null) {
            return UNKNOWN;
        }
        if (!isWithin(n, 0, MOST_NUMBER) || !whatFits) {
            return OUTSIDE;
        }
        if (!program.settle()) {
            return NO;
        }
        return runner.goThrough(body, n) ? TAKEN : STATE;
    }

    // ---- what is common to all

    private static boolean isWithin(int number, int least, int most) {
        return number >= least && number <= most;
    }

    private static boolean isFigure(int sign) {
        return isWithin(sign, '0', '9');
    }

    private static boolean isLetter(int sign) {
        return isWithin(sign, 'a', 'd');
    }

    /** LET and CALL bear the name of a letter or a BODY, a sign that is no PART. */
    private static boolean bearsName(int sign) {
        return sign == 'l' || sign == '@';
    }

    private static boolean isNameFor(int sign, int name) {
        return sign == 'l' ? isLetter(name) : isWithin(name, '0', '0' + BODIES - 1);
    }

    /** How many TERMS stand in one that begins with this sign; less than 0 if none begins so. */
    private static int termsIn(int sign) {
        switch (sign) {
            case 'n':
            case '*':
            case '-':
            case '@':
                return 1;
            case '+':
            case 'l':
                return 2;
            case '?':
                return 3;
            default:
                return sign == 'x' || isFigure(sign) || isLetter(sign) ? 0 : -1;
        }
    }

    /**
     * The bits of the single number nearest to most / plain. Whole numbers only: the library
     * that is allowed does not tell the bits of a float.
     */
    private static int quotientBits(int most, int plain) {
        if (most <= 0 || plain <= 0) {
            return 0;
        }
        long above = most;
        long below = plain;
        int exponent = 127;
        for (int i = 0; i < 32 && above < below; i++) {
            above = above * 2;
            exponent--;
        }
        for (int i = 0; i < 32 && above >= 2 * below; i++) {
            below = below * 2;
            exponent++;
        }
        long scaled = above << 23;
        long whole = scaled / below;
        long twiceRest = 2 * (scaled % below);
        if (twiceRest > below || twiceRest == below && (whole & 1) == 1) {
            whole++;
        }
        // Added, not or-ed: a mantissa rounded up to its end carries into the exponent.
        return (int) (((long) exponent << 23) + (whole - (1L << 23)));
    }

    /** A row of numbers that can not be left: outside it there is 0, and nothing is put there. */
    private static final class Row {
        private final int[] cells;

        Row(int length) {
            cells = new int[length > 0 ? length : 0];
        }

        int get(int i) {
            return i >= 0 && i < cells.length ? cells[i] : 0;
        }

        void set(int i, int number) {
            if (i >= 0 && i < cells.length) {
                cells[i] = number;
            }
        }

        void fill(int number) {
            for (int i = 0; i < cells.length; i++) {
                cells[i] = number;
            }
        }
    }

    /** What is said of a body. */
    private static final class Text {
        final Row signs = new Row(SIGNS);
        int count;
        int given;
        int gives;

        boolean hasPlace(int place) {
            return place >= 0 && place < count;
        }

        int bothKinds() {
            return 10 * given + gives;
        }

        void takeFrom(Text other) {
            for (int i = 0; i < SIGNS; i++) {
                signs.set(i, other.signs.get(i));
            }
            count = other.count;
            given = other.given;
            gives = other.gives;
        }
    }

    /** The tree of a text. A PART is known by the place of its first sign. */
    private static final class Term {
        final Text text = new Text();
        /** Of each PART, while there is no FAULT; only all bodies together tell them. */
        final Row kinds = new Row(SIGNS);
        /** The sign of the PART that begins at a place; 0 where none does, as at a name. */
        final Row partSigns = new Row(SIGNS);
        /** Which BODY a CALL calls. */
        final Row called = new Row(SIGNS);
        private final Row inner = new Row(3 * SIGNS);
        private final Row outer = new Row(SIGNS);
        private final Row ends = new Row(SIGNS);
        private final Row binders = new Row(SIGNS);
        private final Row waiting = new Row(SIGNS);
        int faultPlace;
        int partCount;

        boolean isPart(int place) {
            return partSigns.get(place) != 0;
        }

        /** The place of a TERM that stands in the PART, 0 being the first one. */
        int innerAt(int place, int which) {
            return inner.get(3 * place + which);
        }

        /** The place of the LET by which a letter is BOUND; NONE. */
        int binderAt(int place) {
            return binders.get(place);
        }

        int innerKind(int place, int which) {
            return kinds.get(inner.get(3 * place + which));
        }

        /** The least PART around two, of which the second stands behind the first. */
        int leastAround(int first, int second) {
            int around = first;
            for (int i = 0; i < SIGNS && around > 0 && second >= ends.get(around); i++) {
                around = outer.get(around);
            }
            return around;
        }

        void read() {
            partCount = 0;
            faultPlace = findFault();
            if (faultPlace == NONE) {
                linkParts();
                findNames();
            }
        }

        private int findFault() {
            partSigns.fill(0);
            int due = 1;
            int place = 0;
            while (place < text.count && due > 0) {
                int sign = text.signs.get(place);
                int within = termsIn(sign);
                if (within < 0) {
                    return place;
                }
                partSigns.set(place, sign);
                place++;
                if (bearsName(sign)) {
                    if (place < text.count && !isNameFor(sign, text.signs.get(place))) {
                        return place;
                    }
                    place++;
                }
                due += within - 1;
            }
            if (due > 0) {
                return text.count;
            }
            return place < text.count ? place : NONE;
        }

        /** From right to left, the TERMS in a PART are the last ones that have been met. */
        private void linkParts() {
            int height = 0;
            for (int place = text.count - 1; place >= 0; place--) {
                int sign = partSigns.get(place);
                if (sign == 0) {
                    continue;
                }
                int end = place + (bearsName(sign) ? 2 : 1);
                int within = termsIn(sign);
                for (int i = 0; i < within; i++) {
                    height--;
                    int part = waiting.get(height);
                    inner.set(3 * place + i, part);
                    outer.set(part, place);
                    end = ends.get(part);
                }
                ends.set(place, end);
                waiting.set(height, place);
                height++;
                partCount++;
            }
            outer.set(0, NONE);
        }

        private void findNames() {
            for (int place = 0; place < text.count; place++) {
                int sign = partSigns.get(place);
                binders.set(place, isLetter(sign) ? findBinder(place) : NONE);
                called.set(place, sign == '@' ? text.signs.get(place + 1) - '0' : NONE);
            }
        }

        private int findBinder(int place) {
            int letter = text.signs.get(place);
            int below = place;
            int above = outer.get(place);
            for (int i = 0; i < SIGNS && above >= 0; i++) {
                boolean binds = text.signs.get(above) == 'l' && text.signs.get(above + 1) == letter;
                if (binds && innerAt(above, 1) == below) {
                    return above;
                }
                below = above;
                above = outer.get(above);
            }
            return NONE;
        }
    }

    /** The three bodies, and what only all of them together tell. */
    private static final class Program {
        private final Body[] bodies = new Body[BODIES];
        /** Grows with each change, so that what was found from the texts is known to be old. */
        int changes;
        private int settledAt = NONE;
        private boolean isWell;

        Program() {
            for (int i = 0; i < bodies.length; i++) {
                bodies[i] = new Body();
            }
        }

        Body bodyAt(int i) {
            return i >= 0 && i < bodies.length ? bodies[i] : null;
        }

        void kindsChanged() {
            changes++;
            for (int i = 0; i < bodies.length; i++) {
                Term term = bodies[i].term;
                for (int place = 0; term.faultPlace == NONE && place < term.text.count; place++) {
                    term.kinds.set(place, term.isPart(place) ? findKind(term, place) : NUMBER);
                }
            }
        }

        /** Each hop leads to a PART that ends ahead of this one, so there are no more hops than signs. */
        private int findKind(Term term, int start) {
            int place = start;
            for (int hop = 0; hop < SIGNS; hop++) {
                int sign = term.text.signs.get(place);
                if (sign == 'n') {
                    return BOX;
                }
                if (sign == 'x') {
                    return term.text.given;
                }
                if (sign == '@') {
                    Body called = bodyAt(term.called.get(place));
                    return called == null ? NUMBER : called.text.gives;
                }
                int let = term.binderAt(place);
                if (sign == '?' || sign == 'l') {
                    place = term.innerAt(place, 1);
                } else if (isLetter(sign) && let != NONE) {
                    place = term.innerAt(let, 0);
                } else {
                    return NUMBER;
                }
            }
            return NUMBER;
        }

        /** The least place of an ILL PART; NONE. */
        int firstIll(Term term) {
            for (int place = 0; place < term.text.count; place++) {
                if (term.isPart(place) && isIll(term, place)) {
                    return place;
                }
            }
            return NONE;
        }

        private boolean isIll(Term term, int place) {
            if (place == 0 && term.kinds.get(0) != term.text.gives) {
                return true;
            }
            int sign = term.text.signs.get(place);
            switch (sign) {
                case 'n':
                case '-':
                    return term.innerKind(place, 0) != NUMBER;
                case '+':
                    return term.innerKind(place, 0) != NUMBER || term.innerKind(place, 1) != NUMBER;
                case '*':
                    return term.innerKind(place, 0) != BOX;
                case '?':
                    return term.innerKind(place, 0) != NUMBER
                        || term.innerKind(place, 1) != term.innerKind(place, 2);
                case '@':
                    Body called = bodyAt(term.called.get(place));
                    return called == null || term.innerKind(place, 0) != called.text.given;
                default:
                    return isLetter(sign) && term.binderAt(place) == NONE;
            }
        }

        /** Whether the program is WELL; if so, its regions are laid out behind it. */
        boolean settle() {
            if (settledAt == changes) {
                return isWell;
            }
            settledAt = changes;
            isWell = areAllWell();
            if (isWell) {
                findPasses();
                for (int i = 0; i < bodies.length; i++) {
                    bodies[i].numberParts();
                }
                findEffects();
                for (int i = 0; i < bodies.length; i++) {
                    bodies[i].findHomes();
                }
            }
            return isWell;
        }

        private boolean areAllWell() {
            for (int i = 0; i < bodies.length; i++) {
                Term term = bodies[i].term;
                if (term.faultPlace != NONE || firstIll(term) != NONE) {
                    return false;
                }
            }
            return true;
        }

        /** From no PASS at all upwards, so that as few bodies as can be become one. */
        private void findPasses() {
            for (int i = 0; i < bodies.length; i++) {
                bodies[i].isPass = false;
            }
            boolean changed = true;
            for (int round = 0; round <= BODIES && changed; round++) {
                changed = false;
                for (int i = 0; i < bodies.length; i++) {
                    Body body = bodies[i];
                    boolean before = body.isPass;
                    body.joinParts(this);
                    changed = changed || body.isPass != before;
                }
            }
        }

        /** From no effect at all upwards: a round more than there are effects to be found. */
        private void findEffects() {
            for (int i = 0; i < bodies.length; i++) {
                bodies[i].effect = 0;
            }
            boolean changed = true;
            for (int round = 0; round <= EFFECTS && changed; round++) {
                changed = false;
                for (int i = 0; i < bodies.length; i++) {
                    Body body = bodies[i];
                    int before = body.effect;
                    body.effect = body.findEffect(this);
                    changed = changed || body.effect != before;
                }
            }
        }
    }

    /** A body: its tree, and the regions in it, which are found while the program is WELL. */
    private static final class Body {
        /** P and R have labels of their own, behind those of the places: a region may have no PART. */
        private static final int GIVEN_LABEL = SIGNS;
        private static final int GIVES_LABEL = SIGNS + 1;
        private static final int LABELS = SIGNS + 2;

        final Term term = new Term();
        final Text text = term.text;
        private final Row labels = new Row(LABELS);
        /** The REGION of the PART at a place; NONE. */
        final Row numbers = new Row(SIGNS);
        /** The REGION of the first TERM that stands in it; NONE. */
        final Row innerNumbers = new Row(SIGNS);
        final Row homes = new Row(REGION_NUMBERS);
        boolean isPass;
        int effect;
        int ownCount;

        boolean hasOwn(int region) {
            return region >= FIRST_OWN && region < FIRST_OWN + ownCount;
        }

        void joinParts(Program program) {
            for (int i = 0; i < LABELS; i++) {
                labels.set(i, i);
            }
            for (int place = 0; place < text.count; place++) {
                if (term.kinds.get(place) == BOX) {
                    joinPart(program, place);
                }
            }
            if (text.gives == BOX) {
                join(0, GIVES_LABEL);
            }
            // A NUMBER joins nothing, so the two labels meet only if both kinds are BOX.
            isPass = labels.get(GIVEN_LABEL) == labels.get(GIVES_LABEL);
        }

        private void joinPart(Program program, int place) {
            switch (term.partSigns.get(place)) {
                case 'n':
                    break;
                case 'x':
                    join(place, GIVEN_LABEL);
                    break;
                case 'l':
                    join(place, term.innerAt(place, 1));
                    break;
                case '?':
                    join(place, term.innerAt(place, 1));
                    join(place, term.innerAt(place, 2));
                    break;
                case '@':
                    Body called = program.bodyAt(term.called.get(place));
                    if (called != null && called.isPass) {
                        join(place, term.innerAt(place, 0));
                    }
                    break;
                default:
                    join(place, term.innerAt(term.binderAt(place), 0));
                    break;
            }
        }

        private void join(int one, int other) {
            int stays = labels.get(one);
            int goes = labels.get(other);
            for (int i = 0; i < LABELS; i++) {
                if (labels.get(i) == goes) {
                    labels.set(i, stays);
                }
            }
        }

        void numberParts() {
            ownCount = 0;
            for (int place = 0; place < text.count; place++) {
                boolean isBox = term.kinds.get(place) == BOX;
                numbers.set(place, isBox ? findNumber(place) : NONE);
            }
            for (int place = 0; place < text.count; place++) {
                boolean hasInner = termsIn(term.partSigns.get(place)) > 0;
                innerNumbers.set(place, hasInner ? numbers.get(term.innerAt(place, 0)) : NONE);
            }
        }

        private int findNumber(int place) {
            int label = labels.get(place);
            if (label == labels.get(GIVEN_LABEL)) {
                return GIVEN_REGION;
            }
            if (label == labels.get(GIVES_LABEL)) {
                return GIVES_REGION;
            }
            for (int i = 0; i < place; i++) {
                if (numbers.get(i) != NONE && labels.get(i) == label) {
                    return numbers.get(i);
                }
            }
            ownCount++;
            return FIRST_OWN + ownCount - 1;
        }

        int findEffect(Program program) {
            int givesRegion = isPass ? GIVEN_REGION : GIVES_REGION;
            int found = 0;
            for (int place = 0; place < text.count; place++) {
                found |= putsInto(program, place, GIVEN_REGION) ? PUTS_GIVEN : 0;
                found |= looksInto(program, place, GIVEN_REGION) ? LOOKS_GIVEN : 0;
                found |= putsInto(program, place, givesRegion) ? PUTS_GIVES : 0;
                found |= looksInto(program, place, givesRegion) ? LOOKS_GIVES : 0;
            }
            return found;
        }

        void findHomes() {
            for (int region = FIRST_OWN; region < FIRST_OWN + ownCount; region++) {
                int home = NONE;
                for (int place = 0; place < text.count; place++) {
                    if (touchesIt(place, region)) {
                        home = home == NONE ? place : term.leastAround(home, place);
                    }
                }
                homes.set(region, home);
            }
        }

        /** How many PARTS TOUCH a region, PUT into it, LOOK into it. */
        int countOf(Program program, int region, int what) {
            int count = 0;
            for (int place = 0; place < text.count; place++) {
                boolean counts = what == 0 ? touchesIt(place, region)
                    : what == 1 ? putsInto(program, place, region) : looksInto(program, place, region);
                count += counts ? 1 : 0;
            }
            return count;
        }

        private boolean touchesIt(int place, int region) {
            int sign = term.partSigns.get(place);
            boolean usesInner = sign == '*' || sign == '@';
            return numbers.get(place) == region || usesInner && innerNumbers.get(place) == region;
        }

        private boolean putsInto(Program program, int place, int region) {
            int sign = term.partSigns.get(place);
            if (sign == 'n') {
                return numbers.get(place) == region;
            }
            return sign == '@' && callDoes(program, place, region, PUTS_GIVEN, PUTS_GIVES);
        }

        private boolean looksInto(Program program, int place, int region) {
            int sign = term.partSigns.get(place);
            if (sign == '*') {
                return innerNumbers.get(place) == region;
            }
            return sign == '@' && callDoes(program, place, region, LOOKS_GIVEN, LOOKS_GIVES);
        }

        private boolean callDoes(Program program, int place, int region, int toGiven, int toGives) {
            Body called = program.bodyAt(term.called.get(place));
            if (called == null) {
                return false;
            }
            int does = called.effect;
            return (does & toGiven) != 0 && innerNumbers.get(place) == region
                || (does & toGives) != 0 && numbers.get(place) == region;
        }
    }

    /** The boxes of a run, and the regions that are open, the last one on top. */
    private static final class Store {
        private static final int MOST_OPEN = FRAMES * REGION_NUMBERS;

        private final Row holds = new Row(MOST_BOXES);
        private final Row boxesIn = new Row(MOST_OPEN);
        private final Row wordsOfBox = new Row(MOST_OPEN);
        private int open;
        private int boxes;
        private int words;
        int made;
        int mostBoxes;
        int mostOpen;
        int opened;
        int becameSpread;
        int mostWords;
        int plainWords;

        void clear() {
            open = 0;
            boxes = 0;
            words = 0;
            made = 0;
            mostBoxes = 0;
            mostOpen = 0;
            opened = 0;
            becameSpread = 0;
            mostWords = 0;
            plainWords = 0;
        }

        int openRegion() {
            int region = open;
            boxesIn.set(region, 0);
            wordsOfBox.set(region, TIGHT);
            open++;
            opened++;
            mostOpen = Math.max(mostOpen, open);
            return region;
        }

        void closeLast() {
            if (open > 0) {
                open--;
                int gone = boxesIn.get(open);
                boxes -= gone;
                words -= gone * wordsOfBox.get(open);
            }
        }

        int putBox(int region, int number) {
            int box = made;
            holds.set(box, number);
            made++;
            int need = number < LEAST_WIDE ? TIGHT : SPREAD;
            plainWords += need;
            int before = boxesIn.get(region);
            if (need == SPREAD && wordsOfBox.get(region) == TIGHT) {
                wordsOfBox.set(region, SPREAD);
                becameSpread++;
                words += before * (SPREAD - TIGHT);
            }
            boxesIn.set(region, before + 1);
            boxes++;
            words += wordsOfBox.get(region);
            mostBoxes = Math.max(mostBoxes, boxes);
            mostWords = Math.max(mostWords, words);
            return box;
        }

        int lookInto(int box) {
            return holds.get(box);
        }
    }

    /**
     * Goes through runs. What is under way stands in rows of its own, not in calls of Java:
     * twelve calls of forty terms in one another would be too many of those.
     */
    private static final class Runner {
        private static final int SLOTS = FRAMES * SIGNS;

        final Program program = new Program();
        final Store store = new Store();
        private final Row places = new Row(SLOTS);
        private final Row stages = new Row(SLOTS);
        private final Row frames = new Row(SLOTS);
        private final Row held = new Row(SLOTS);
        private final Row frameBodies = new Row(FRAMES);
        private final Row frameGiven = new Row(FRAMES);
        private final Row letValues = new Row(FRAMES * SIGNS);
        private final Row regions = new Row(FRAMES * REGION_NUMBERS);
        private int height;
        private int result;
        private int steps;
        private int calls;
        private boolean isKnown;
        private int ranAt = NONE;
        private int ranBody;
        private int ranNumber;

        int tallyOf(int what) {
            switch (what) {
                case 0:
                    return result;
                case 1:
                    return steps;
                case 2:
                    return store.made;
                case 3:
                    return store.mostBoxes;
                case 4:
                    return store.mostOpen;
                case 5:
                    return store.opened;
                case 6:
                    return store.becameSpread;
                default:
                    return calls;
            }
        }

        /** Whether the RUN is known. The last one is kept while nothing changes. */
        boolean goThrough(int index, int n) {
            if (ranAt == program.changes && ranBody == index && ranNumber == n) {
                return isKnown;
            }
            Body body = program.bodyAt(index);
            if (body == null) {
                return false;
            }
            begin(body, index, n);
            for (int turn = 0; turn < MOST_TURNS && height > 0 && isKnown; turn++) {
                takeTurn();
            }
            isKnown = isKnown && height == 0;
            if (body.text.gives == BOX) {
                result = store.lookInto(result);
            }
            ranAt = program.changes;
            ranBody = index;
            ranNumber = n;
            return isKnown;
        }

        private void begin(Body body, int index, int n) {
            store.clear();
            height = 0;
            result = 0;
            steps = 0;
            calls = 0;
            isKnown = true;
            frameBodies.set(0, index);
            frameGiven.set(0, n);
            if (body.text.given == BOX) {
                int region = store.openRegion();
                setRegion(0, GIVEN_REGION, region);
                frameGiven.set(0, store.putBox(region, n));
            }
            if (body.text.gives == BOX && !body.isPass) {
                setRegion(0, GIVES_REGION, store.openRegion());
            }
            push(0, 0);
        }

        private void setRegion(int frame, int number, int region) {
            if (number >= 0) {
                regions.set(frame * REGION_NUMBERS + number, region);
            }
        }

        private int regionFor(int frame, int number) {
            return number >= 0 ? regions.get(frame * REGION_NUMBERS + number) : NONE;
        }

        private void push(int frame, int place) {
            frames.set(height, frame);
            places.set(height, place);
            stages.set(height, 0);
            height++;
        }

        private void takeTurn() {
            int slot = height - 1;
            int frame = frames.get(slot);
            int place = places.get(slot);
            int stage = stages.get(slot);
            Body body = program.bodyAt(frameBodies.get(frame));
            if (body == null) {
                isKnown = false;
                return;
            }
            stages.set(slot, stage + 1);
            if (stage == 0) {
                enter(body, frame, place);
            } else if (stage == 1) {
                goOn(body, frame, place);
            } else {
                if (body.text.signs.get(place) == '+') {
                    result = (held.get(slot) + result) % (MOST_NUMBER + 1);
                }
                leave(body, place);
            }
        }

        private void enter(Body body, int frame, int place) {
            steps++;
            if (steps > MOST_STEPS) {
                isKnown = false;
                return;
            }
            for (int own = FIRST_OWN; own < FIRST_OWN + body.ownCount; own++) {
                if (body.homes.get(own) == place) {
                    setRegion(frame, own, store.openRegion());
                }
            }
            if (termsIn(body.text.signs.get(place)) > 0) {
                push(frame, body.term.innerAt(place, 0));
            } else {
                result = valueOf(body.term, frame, place);
                leave(body, place);
            }
        }

        private int valueOf(Term term, int frame, int place) {
            int sign = term.text.signs.get(place);
            if (sign == 'x') {
                return frameGiven.get(frame);
            }
            if (isLetter(sign)) {
                return letValues.get(frame * SIGNS + term.binderAt(place));
            }
            return sign - '0';
        }

        private void leave(Body body, int place) {
            for (int own = FIRST_OWN; own < FIRST_OWN + body.ownCount; own++) {
                if (body.homes.get(own) == place) {
                    store.closeLast();
                }
            }
            height--;
        }

        /** Behind the first TERM in the PART, whose value is the result. */
        private void goOn(Body body, int frame, int place) {
            switch (body.text.signs.get(place)) {
                case 'n':
                    makeBox(regionFor(frame, body.numbers.get(place)));
                    leave(body, place);
                    break;
                case '*':
                    result = store.lookInto(result);
                    leave(body, place);
                    break;
                case '-':
                    result = Math.max(0, result - 1);
                    leave(body, place);
                    break;
                case '+':
                    held.set(height - 1, result);
                    push(frame, body.term.innerAt(place, 1));
                    break;
                case '?':
                    push(frame, body.term.innerAt(place, result != 0 ? 1 : 2));
                    break;
                case 'l':
                    letValues.set(frame * SIGNS + place, result);
                    push(frame, body.term.innerAt(place, 1));
                    break;
                default:
                    callBody(body, frame, place);
                    break;
            }
        }

        private void makeBox(int region) {
            if (store.made >= MOST_BOXES) {
                isKnown = false;
            } else {
                result = store.putBox(region, result);
            }
        }

        private void callBody(Body body, int frame, int place) {
            int within = frame + 1;
            if (within > MOST_CALLS_WITHIN) {
                isKnown = false;
                return;
            }
            calls++;
            setRegion(within, GIVEN_REGION, regionFor(frame, body.innerNumbers.get(place)));
            setRegion(within, GIVES_REGION, regionFor(frame, body.numbers.get(place)));
            frameBodies.set(within, body.term.called.get(place));
            frameGiven.set(within, result);
            push(within, 0);
        }
    }
}
