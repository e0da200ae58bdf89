/** Asks a ChainCover and a PlainOrder the same questions. */
final class Compare {
    private static final int[] FAR = {
        Integer.MIN_VALUE, Integer.MIN_VALUE + 1, -1024, -33, -32, -2, -1,
        31, 32, 33, 1024, 65536, 1 << 30, Integer.MAX_VALUE,
    };

    private Compare() {
    }

    /** Every question about the elements and the whole order, wrong numbers among them. */
    static void whole(String after, ChainCover got, PlainOrder want) {
        Check.due(after + "size()", got.size(), want.size());
        Check.due(after + "lowest()", got.lowest(), want.lowest());
        Check.due(after + "highest()", got.highest(), want.highest());
        for (int v = -1; v <= want.size() + 1; v++) {
            element(after, v, got, want);
            for (int u = -1; u <= want.size() + 1; u++) {
                pair(after, u, v, got, want);
            }
        }
    }

    static void everySet(String after, ChainCover got, PlainOrder want) {
        for (int set = -1; set <= 1 << want.size(); set++) {
            set(after, set, got, want);
        }
    }

    /** Questions with numbers far from any element or set. */
    static void far(String after, ChainCover got, PlainOrder want) {
        for (int number : FAR) {
            set(after, number, got, want);
            element(after, number, got, want);
            pair(after, number, 0, got, want);
            pair(after, 0, number, got, want);
            pair(after, number, number, got, want);
        }
    }

    static void set(String after, int set, ChainCover got, PlainOrder want) {
        Check.due(after + "width(" + set + ")", got.width(set), want.width(set));
        Check.due(after + "chains(" + set + ")", got.chains(set), want.chains(set));
        Check.due(after + "longestChain(" + set + ")", got.longestChain(set), want.longestChain(set));
        Check.due(after + "isLargest(" + set + ")", got.isLargest(set), want.isLargest(set));
    }

    static void element(String after, int v, ChainCover got, PlainOrder want) {
        Check.due(after + "inSomeLargest(" + v + ")", got.inSomeLargest(v), want.inSomeLargest(v));
    }

    static void pair(String after, int u, int v, ChainCover got, PlainOrder want) {
        Check.due(after + "below(" + u + ", " + v + ")", got.below(u, v), want.below(u, v));
    }
}
