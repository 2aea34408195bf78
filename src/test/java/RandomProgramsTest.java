/** Programs made by chance, each answer compared with that of the Reference. */
public final class RandomProgramsTest {
    private static final int PROGRAMS = 1500;
    private static final int STIRS = 400;

    private static int wrong;
    private static int compared;
    private static int wellPrograms;
    private static int knownRuns;

    private static void take(Pair pair) {
        wrong += pair.wrong;
        compared += pair.compared;
        knownRuns += pair.knownRuns;
    }

    /** Well-made programs: regions and runs. */
    private static void wellMade(int number) {
        Chance chance = new Chance(number);
        Pair pair = new Pair();
        chance.given = new int[] {chance.below(2), chance.below(2), chance.below(2)};
        chance.gives = new int[] {chance.below(2), chance.below(2), chance.below(2)};
        for (int body = 0; body < 3; body++) {
            pair.body(body, chance.given[body], chance.gives[body]);
            pair.text(body, chance.body(body, 2 + chance.below(4)));
        }
        pair.compareRegions();
        pair.compareRuns(chance.below(4));
        pair.compareRuns(5 + chance.below(9));
        pair.compareRuns(chance.below(1000));
        if (number % 20 == 0) {
            pair.compareBodies();
            pair.compareRuns(1000);
            pair.compareRuns(-1);
        }
        wellPrograms += pair.reference.well();
        take(pair);
    }

    /** One object told much by chance: texts with faults, ill ones, images. */
    private static void stirred(int number) {
        Chance chance = new Chance(1000000 + number);
        Pair pair = new Pair();
        String signs = "0129xabcdn*-+?l@lan@2*-x3!~e";
        for (int i = 0; i < 12 && pair.hasRoom(); i++) {
            int body = chance.below(3);
            int sort = chance.below(8);
            if (sort == 0) {
                pair.body(body, chance.below(2), chance.below(2));
            } else if (sort == 1) {
                pair.image(chance.below(2));
            } else if (sort == 2) {
                pair.restore(chance.below(2));
            } else if (sort < 5) {
                String text = "";
                for (int length = chance.below(chance.below(5) == 0 ? 45 : 8); length > 0; length--) {
                    text += signs.charAt(chance.below(signs.length()));
                }
                pair.text(body, text);
            } else {
                // Kinds by chance, too: most of these are ill.
                chance.given = new int[] {chance.below(2), chance.below(2), chance.below(2)};
                chance.gives = new int[] {chance.below(2), chance.below(2), chance.below(2)};
                pair.text(body, chance.body(body, 3));
            }
            pair.compareBodies();
            pair.compareRuns(chance.below(20));
        }
        pair.compareRegions();
        take(pair);
    }

    public static void main(String[] args) {
        for (int i = 0; i < PROGRAMS; i++) {
            wellMade(i);
        }
        for (int i = 0; i < STIRS; i++) {
            stirred(i);
        }
        System.out.println(compared + " answers compared, " + wellPrograms + " programs well, "
            + knownRuns + " runs known, " + wrong + " wrong");
        boolean thin = wellPrograms < PROGRAMS || knownRuns < PROGRAMS;
        if (wrong != 0 || thin) {
            System.exit(1);
        }
    }
}
