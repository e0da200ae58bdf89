/** Chains and antichains of a growing partial order of at most ten elements. */
public final class ChainCover {
    public static final int BAD = -1;
    public static final int FULL = -2;

    private static final int MOST = 10;

    // downs[v] is the set of all elements below v, not only of those named to add.
    // What is below v always has a smaller number than v: add and turn keep it so,
    // and therefore the last element is in no other one's set when it is taken away.
    private final int[] downs = new int[MOST];
    private final int[] turned = new int[MOST];
    private int elements = 0;

    public ChainCover() {
    }

    public int add(int under) {
        if (elements >= MOST) {
            return FULL;
        }
        if (!isSetOfOrder(under)) {
            return BAD;
        }
        downs[elements] = under | everythingBelow(under);
        elements++;
        return elements;
    }

    public int removeLast() {
        if (elements == 0) {
            return BAD;
        }
        elements--;
        return elements;
    }

    public int turn() {
        for (int v = 0; v < elements; v++) {
            int above = everythingAbove(v);
            turned[elements - 1 - v] = mirrored(above);
        }
        for (int v = 0; v < elements; v++) {
            downs[v] = turned[v];
        }
        return elements;
    }

    public int size() {
        return elements;
    }

    public boolean below(int u, int v) {
        return isElement(u) && isElement(v) && has(downs[v], u);
    }

    public int width(int set) {
        if (!isSetOfOrder(set)) {
            return BAD;
        }
        return sizeOfLargestAntichain(set);
    }

    public int chains(int set) {
        if (!isSetOfOrder(set)) {
            return BAD;
        }
        // Dilworth's theorem: the fewest chains that cover a set are as many as its width.
        return sizeOfLargestAntichain(set);
    }

    public int longestChain(int set) {
        if (!isSetOfOrder(set)) {
            return BAD;
        }
        // A chain has at most one element in each layer of minimal elements, and an element
        // of the last layer tops a chain that has one in every layer: so count the layers.
        int rest = set;
        int layers = 0;
        for (int i = 0; i < MOST && rest != 0; i++) {
            rest = rest & ~minimalElements(rest);
            layers++;
        }
        return layers;
    }

    // The minimal elements of the union of two largest antichains are a largest antichain
    // again, and so are the maximal ones. Hence those of the union of all of them are the
    // lowest and the highest.
    public int lowest() {
        int union = unionOfLargest();
        return minimalElements(union);
    }

    public int highest() {
        int union = unionOfLargest();
        return union & ~everythingBelow(union);
    }

    public boolean isLargest(int set) {
        if (!isSetOfOrder(set) || !isAntichain(set)) {
            return false;
        }
        int all = (1 << elements) - 1;
        return count(set) == sizeOfLargestAntichain(all);
    }

    public boolean inSomeLargest(int v) {
        if (!isElement(v)) {
            return false;
        }
        int union = unionOfLargest();
        return has(union, v);
    }

    private boolean isElement(int v) {
        return v >= 0 && v < elements;
    }

    private boolean isSetOfOrder(int set) {
        return set >= 0 && set < (1 << elements);
    }

    private static boolean has(int set, int v) {
        return ((set >> v) & 1) != 0;
    }

    private static int count(int set) {
        int found = 0;
        for (int v = 0; v < MOST; v++) {
            found += (set >> v) & 1;
        }
        return found;
    }

    private int everythingBelow(int set) {
        int found = 0;
        for (int v = 0; v < elements; v++) {
            if (has(set, v)) {
                found |= downs[v];
            }
        }
        return found;
    }

    private int everythingAbove(int u) {
        int found = 0;
        for (int v = 0; v < elements; v++) {
            if (has(downs[v], u)) {
                found |= 1 << v;
            }
        }
        return found;
    }

    private int mirrored(int set) {
        int found = 0;
        for (int v = 0; v < elements; v++) {
            if (has(set, v)) {
                found |= 1 << (elements - 1 - v);
            }
        }
        return found;
    }

    private int minimalElements(int set) {
        int found = 0;
        for (int v = 0; v < elements; v++) {
            if (has(set, v) && (downs[v] & set) == 0) {
                found |= 1 << v;
            }
        }
        return found;
    }

    private boolean isAntichain(int set) {
        return (everythingBelow(set) & set) == 0;
    }

    private int sizeOfLargestAntichain(int set) {
        int sets = 1 << elements;
        int best = 0;
        for (int part = 0; part < sets; part++) {
            if ((part & ~set) == 0 && isAntichain(part)) {
                int size = count(part);
                best = size > best ? size : best;
            }
        }
        return best;
    }

    private int unionOfLargest() {
        int sets = 1 << elements;
        int most = 0;
        int union = 0;
        for (int set = 0; set < sets; set++) {
            int size = count(set);
            if (size >= most && isAntichain(set)) {
                // A greater size shows that what was gathered so far was not largest.
                union = size > most ? set : union | set;
                most = size;
            }
        }
        return union;
    }
}
