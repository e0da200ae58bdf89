/**
 * Runs of 512 calls each, the most that the document allows, mixed from all methods, every answer
 * against PlainOrder's. The numbers come from a fixed rule, so each time the runs are the same.
 */
public final class MixedRunsTest {
    private static final int RUNS = 400;
    private static final int CALLS = 512;

    private static long seed = 20261115L;

    private MixedRunsTest() {
    }

    public static void main(String[] args) {
        for (int run = 0; run < RUNS; run++) {
            ChainCover got = new ChainCover();
            PlainOrder want = new PlainOrder();
            for (int call = 0; call < CALLS; call++) {
                String at = "run " + run + ", call " + call + ": ";
                // A third of the runs stays near ten elements, a third wanders, a third near none.
                int kind = pick(20 + 3 * (run % 3));
                if (kind < 8) {
                    change(at, kind, got, want);
                } else if (kind < 20) {
                    ask(at, kind, got, want);
                } else {
                    Check.due(at + "removeLast()", got.removeLast(), want.removeLast());
                }
            }
        }
        Check.end();
    }

    private static void change(String at, int kind, ChainCover got, PlainOrder want) {
        if (kind < 5) {
            int under = set(want.size());
            Check.due(at + "add(" + under + ")", got.add(under), want.add(under));
        } else if (kind == 5) {
            Check.due(at + "removeLast()", got.removeLast(), want.removeLast());
        } else {
            Check.due(at + "turn()", got.turn(), want.turn());
        }
    }

    private static void ask(String at, int kind, ChainCover got, PlainOrder want) {
        if (kind == 8) {
            Check.due(at + "size()", got.size(), want.size());
        } else if (kind < 11) {
            Compare.pair(at, element(want.size()), element(want.size()), got, want);
        } else if (kind == 11 || kind == 12) {
            int set = set(want.size());
            Check.due(at + "width(" + set + ")", got.width(set), want.width(set));
        } else if (kind == 13) {
            int set = set(want.size());
            Check.due(at + "chains(" + set + ")", got.chains(set), want.chains(set));
        } else if (kind == 14) {
            int set = set(want.size());
            Check.due(at + "longestChain(" + set + ")", got.longestChain(set), want.longestChain(set));
        } else if (kind == 15) {
            Check.due(at + "lowest()", got.lowest(), want.lowest());
        } else if (kind == 16) {
            Check.due(at + "highest()", got.highest(), want.highest());
        } else if (kind < 19) {
            // A set picked freely is seldom a largest antichain.
            int set = pick(3) == 0 ? set(want.size()) : pick(2) == 0 ? want.lowest() : want.highest();
            Check.due(at + "isLargest(" + set + ")", got.isLargest(set), want.isLargest(set));
        } else {
            Compare.element(at, element(want.size()), got, want);
        }
    }

    private static int set(int n) {
        switch (pick(16)) {
            case 0:
                return 1 << n;
            case 1:
                return -1 - pick(1 << n);
            case 2:
            case 3:
            case 4:
                return (1 << n) - 1;
            case 5:
            case 6:
            case 7:
            case 8:
                // Few elements: orders that are neither one chain nor one antichain.
                return pick(1 << n) & pick(1 << n) & pick(1 << n);
            default:
                return pick(1 << n) & pick(1 << n);
        }
    }

    private static int element(int n) {
        return pick(n + 2) - pick(2);
    }

    private static int pick(int bound) {
        seed = seed * 6364136223846793005L + 1442695040888963407L;
        return (int) ((seed >>> 33) % bound);
    }
}
