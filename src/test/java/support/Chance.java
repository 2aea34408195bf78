/** The same numbers each time, and terms made by them. */
final class Chance {
    private long seed;

    Chance(long seed) {
        this.seed = seed * 2862933555777941757L + 3037000493L;
    }

    int below(int bound) {
        seed = seed * 6364136223846793005L + 1442695040888963407L;
        return (int) ((seed >>> 33) % bound);
    }

    int[] given;
    int[] gives;

    /** A term of the kind that the body gives, of 40 signs at the most. */
    String body(int body, int depth) {
        for (int tries = 0; tries < 200; tries++) {
            String text = term(body, gives[body], depth, "", "");
            if (text.length() <= 40) {
                return text;
            }
        }
        return gives[body] == 1 ? "n1" : "2";
    }

    private String letterOf(String letters, String kinds, int kind) {
        String fit = "";
        for (char letter = 'a'; letter <= 'd'; letter++) {
            int last = letters.lastIndexOf(letter);
            if (last >= 0 && kinds.charAt(last) == '0' + kind) {
                fit += letter;
            }
        }
        return fit.isEmpty() ? "" : "" + fit.charAt(below(fit.length()));
    }

    /** letters and kinds tell what is bound, the innermost last. */
    private String term(int body, int kind, int depth, String letters, String kinds) {
        String letter = letterOf(letters, kinds, kind);
        if (!letter.isEmpty() && below(3) == 0) {
            return letter;
        }
        if (given[body] == kind && below(depth <= 0 ? 2 : 5) == 0) {
            return "x";
        }
        if (depth <= 0) {
            return kind == 0 ? "" + (char) ('0' + below(10)) : "n" + (char) ('0' + below(10));
        }
        int choice = below(12);
        int d = depth - 1;
        if (choice < 3) {
            int bound = below(4) == 0 ? 0 : 1;
            char name = (char) ('a' + below(4));
            return "l" + name + term(body, bound, d, letters, kinds)
                + term(body, kind, d, letters + name, kinds + bound);
        }
        if (choice < 5) {
            String condition = given[body] == 1 ? "*x" : "x";
            if (below(3) == 0) {
                condition = term(body, 0, d - 1, letters, kinds);
            }
            return "?" + condition + term(body, kind, d, letters, kinds) + term(body, kind, d - 1, letters, kinds);
        }
        if (choice < 8) {
            int called = below(3);
            if (gives[called] == kind) {
                String less = given[body] == 1 ? "-*x" : "-x";
                if (below(2) == 0) {
                    return "@" + called + (given[called] == 1 ? "n" + less : less);
                }
                return "@" + called + term(body, given[called], d, letters, kinds);
            }
        }
        if (kind == 1) {
            return "n" + term(body, 0, d, letters, kinds);
        }
        int sort = below(4);
        return sort == 0 ? "-" + term(body, 0, d, letters, kinds)
            : sort == 1 ? "+" + term(body, 0, d, letters, kinds) + term(body, 0, d, letters, kinds)
            : "*" + term(body, 1, d, letters, kinds);
    }
}
