import java.util.ArrayList;
import java.util.List;

/**
 * The document's words, written down as literally as can be and as slowly as need be: a second
 * ChainCover to compare with. It uses none of the theorems that ChainCover leans on.
 */
final class PlainOrder {
    private int n = 0;
    private boolean[][] below = new boolean[10][10];

    int add(int under) {
        if (n == 10) {
            return ChainCover.FULL;
        }
        if (!isSet(under)) {
            return ChainCover.BAD;
        }
        for (int u = 0; u < n; u++) {
            below[u][n] = in(u, under);
            for (int w = 0; w < n; w++) {
                below[u][n] |= in(w, under) && below[u][w];
            }
            below[n][u] = false;
        }
        n++;
        return n;
    }

    int removeLast() {
        if (n == 0) {
            return ChainCover.BAD;
        }
        n--;
        return n;
    }

    int turn() {
        boolean[][] after = new boolean[10][10];
        for (int u = 0; u < n; u++) {
            for (int v = 0; v < n; v++) {
                after[n - 1 - v][n - 1 - u] = below[u][v];
            }
        }
        below = after;
        return n;
    }

    int size() {
        return n;
    }

    boolean below(int u, int v) {
        return isThere(u) && isThere(v) && below[u][v];
    }

    int width(int set) {
        if (!isSet(set)) {
            return ChainCover.BAD;
        }
        int best = 0;
        for (int part = 0; part <= set; part++) {
            if ((part | set) == set && isAntichain(part)) {
                best = Math.max(best, Integer.bitCount(part));
            }
        }
        return best;
    }

    int chains(int set) {
        if (!isSet(set)) {
            return ChainCover.BAD;
        }
        // least[s]: a part of a chain is a chain, so chains that share no element do as well.
        int[] least = new int[set + 1];
        for (int s = 1; s <= set; s++) {
            if ((s | set) != set) {
                continue;
            }
            least[s] = Integer.MAX_VALUE;
            for (int part = s; part != 0; part = (part - 1) & s) {
                if (isChain(part)) {
                    least[s] = Math.min(least[s], 1 + least[s & ~part]);
                }
            }
        }
        return least[set];
    }

    int longestChain(int set) {
        if (!isSet(set)) {
            return ChainCover.BAD;
        }
        int best = 0;
        for (int part = 1; part <= set; part++) {
            if ((part | set) == set && isChain(part)) {
                best = Math.max(best, Integer.bitCount(part));
            }
        }
        return best;
    }

    int lowest() {
        return extreme(true);
    }

    int highest() {
        return extreme(false);
    }

    boolean isLargest(int set) {
        return largest().contains(set);
    }

    boolean inSomeLargest(int v) {
        for (int set : largest()) {
            if (isThere(v) && in(v, set)) {
                return true;
            }
        }
        return false;
    }

    private int extreme(boolean lowest) {
        List<Integer> largest = largest();
        List<Integer> found = new ArrayList<>();
        for (int one : largest) {
            boolean beforeAll = true;
            for (int other : largest) {
                beforeAll &= eachHasItsMatch(one, other, lowest);
            }
            if (beforeAll) {
                found.add(one);
            }
        }
        if (found.size() != 1) {
            throw new IllegalStateException("not just one: " + found);
        }
        return found.get(0);
    }

    private boolean eachHasItsMatch(int one, int other, boolean lowest) {
        for (int u = 0; u < n; u++) {
            boolean matched = !in(u, one);
            for (int v = 0; v < n; v++) {
                boolean goes = u == v || (lowest ? below[u][v] : below[v][u]);
                matched |= in(v, other) && goes;
            }
            if (!matched) {
                return false;
            }
        }
        return true;
    }

    private List<Integer> largest() {
        List<Integer> found = new ArrayList<>();
        int most = 0;
        for (int set = 0; set < 1 << n; set++) {
            if (!isAntichain(set) || Integer.bitCount(set) < most) {
                continue;
            }
            if (Integer.bitCount(set) > most) {
                found.clear();
                most = Integer.bitCount(set);
            }
            found.add(set);
        }
        return found;
    }

    private boolean isChain(int set) {
        for (int u = 0; u < n; u++) {
            for (int v = 0; v < u; v++) {
                if (in(u, set) && in(v, set) && !below[u][v] && !below[v][u]) {
                    return false;
                }
            }
        }
        return set != 0;
    }

    private boolean isAntichain(int set) {
        for (int u = 0; u < n; u++) {
            for (int v = 0; v < n; v++) {
                if (in(u, set) && in(v, set) && below[u][v]) {
                    return false;
                }
            }
        }
        return true;
    }

    private boolean isThere(int v) {
        return 0 <= v && v < n;
    }

    private boolean isSet(int set) {
        return 0 <= set && set <= (1 << n) - 1;
    }

    private static boolean in(int v, int set) {
        return (set & (1 << v)) != 0;
    }
}
