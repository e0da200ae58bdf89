/**
 * Every order of up to five elements that add can build, as it is, turned round, and with an
 * element taken away after the turn: every answer against PlainOrder's. No object here sees more
 * than the 512 calls that the document allows.
 */
public final class AllSmallOrdersTest {
    private static final int MOST = 5;

    private AllSmallOrdersTest() {
    }

    public static void main(String[] args) {
        int[] unders = new int[MOST];
        for (int n = 0; n <= MOST; n++) {
            do {
                for (int change = 0; change < 4; change++) {
                    compare(unders, n, change);
                }
            } while (next(unders, n));
        }
        Check.end();
    }

    /** Goes on to the next row of arguments of n calls of add; false, and all 0, after the last. */
    private static boolean next(int[] unders, int n) {
        for (int v = 0; v < n; v++) {
            unders[v]++;
            if (unders[v] < 1 << v) {
                return true;
            }
            unders[v] = 0;
        }
        return false;
    }

    private static void compare(int[] unders, int n, int change) {
        ChainCover got = new ChainCover();
        PlainOrder want = new PlainOrder();
        StringBuilder done = new StringBuilder();
        for (int v = 0; v < n; v++) {
            done.append("add(").append(unders[v]).append(") ");
            Check.due(done.toString(), got.add(unders[v]), want.add(unders[v]));
        }
        if (change == 1 || change == 2) {
            done.append("turn() ");
            Check.due(done.toString(), got.turn(), want.turn());
        }
        if (change == 2) {
            done.append("removeLast() ");
            Check.due(done.toString(), got.removeLast(), want.removeLast());
        }
        if (change == 3) {
            done.append("turn() turn() ");
            Check.due(done.toString(), got.turn(), want.turn());
            Check.due(done.toString(), got.turn(), want.turn());
        }
        Compare.whole(done.toString(), got, want);
        Compare.everySet(done.toString(), got, want);
        Compare.far(done.toString(), got, want);
    }
}
