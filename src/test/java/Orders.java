import java.util.Arrays;

/** Orders that several tests use, and the numbers next to the boundaries of an order. */
final class Orders {
    static final int LEAST = Integer.MIN_VALUE;
    static final int GREATEST = Integer.MAX_VALUE;

    private static final int[] MIXED = {
        0, 0, 0b1, 0b11, 0b100, 0, 0b101000, 0b10010, 0b1100000, 0b10000001,
    };

    private Orders() {
    }

    static ChainCover of(int... unders) {
        ChainCover made = new ChainCover();
        for (int under : unders) {
            made.add(under);
        }
        return made;
    }

    static PlainOrder plainOf(int... unders) {
        PlainOrder made = new PlainOrder();
        for (int under : unders) {
            made.add(under);
        }
        return made;
    }

    /** n elements, none below another. */
    static ChainCover alone(int n) {
        return of(new int[n]);
    }

    /** n elements, each above the ones before it; only the one just before it is named to add. */
    static ChainCover tower(int n) {
        return of(towerUnders(n));
    }

    /** n elements, neither one chain nor one antichain from three on. */
    static ChainCover mixed(int n) {
        return of(mixedUnders(n));
    }

    static int[] towerUnders(int n) {
        int[] unders = new int[n];
        for (int v = 1; v < n; v++) {
            unders[v] = 1 << (v - 1);
        }
        return unders;
    }

    static int[] mixedUnders(int n) {
        return Arrays.copyOf(MIXED, n);
    }

    /** The set of all n elements, 2^n - 1: the greatest number that is a set of the order. */
    static int all(int n) {
        return (1 << n) - 1;
    }

    /** Numbers that are no set of an order of n elements, those next to the boundaries first. */
    static int[] wrongSets(int n) {
        int all = all(n);
        return new int[] {
            -1, all + 1, all + 2, -2, -1 - all, -2 - all,
            // The lower bits of these are a set of the order.
            (all + 1) | all, LEAST | all, 1 << 16, 1 << 30, (1 << 30) | all,
            1024, 1025, 2047, GREATEST - 1, GREATEST, LEAST + 1, LEAST,
        };
    }

    /** Numbers that are no element of an order of n, those next to the boundaries first. */
    static int[] wrongElements(int n) {
        return new int[] {
            -1, n, n + 1, -2, 10, 11,
            // Java shifts by these as if they were 0, n - 1 or another element.
            32, 32 + n - 1 + (n == 0 ? 1 : 0), 64, -32, -31, -32 + n, 31, 33,
            256, 65536, GREATEST - 1, GREATEST, LEAST + 1, LEAST,
        };
    }
}
