/** Each promise of the document by hand: ordinary inputs, its edges, wrong inputs. */
public final class PromisesTest {
    private static final int BAD = ChainCover.BAD;
    private static final int FULL = ChainCover.FULL;
    private static final int[] NEVER_A_SET = {
        -1, -2, -1024, Integer.MIN_VALUE, 1024, 1025, 1 << 30, Integer.MAX_VALUE,
    };
    private static final int[] NEVER_AN_ELEMENT = {
        -1, -32, -31, Integer.MIN_VALUE, 10, 31, 32, 33, 64, Integer.MAX_VALUE,
    };

    private PromisesTest() {
    }

    public static void main(String[] args) {
        promise1NewObject();
        promise2Add();
        promise2AddWrong();
        promise3RemoveLast();
        promise4Turn();
        promise5Size();
        promise6Below();
        promise7Width();
        promise8Chains();
        promise9LongestChain();
        promise10And11LowestAndHighest();
        promise12IsLargest();
        promise13InSomeLargest();
        Check.end();
    }

    /** 0 and 1 are minimal, 2 above 0, 3 above 0 and 1, 4 above 2 and so above 0; 5 is alone. */
    private static ChainCover six() {
        return Orders.of(0b0, 0b0, 0b1, 0b11, 0b100, 0b0);
    }

    private static void promise1NewObject() {
        ChainCover x = new ChainCover();
        Check.due("1: size()", x.size(), 0);
        Check.due("1: below(0, 0)", x.below(0, 0), false);
        Check.due("1: width(0)", x.width(0), 0);
        Check.due("1: width(1)", x.width(1), BAD);
        Check.due("1: chains(0)", x.chains(0), 0);
        Check.due("1: longestChain(0)", x.longestChain(0), 0);
        Check.due("1: lowest()", x.lowest(), 0);
        Check.due("1: highest()", x.highest(), 0);
        Check.due("1: isLargest(0)", x.isLargest(0), true);
        Check.due("1: isLargest(1)", x.isLargest(1), false);
        Check.due("1: inSomeLargest(0)", x.inSomeLargest(0), false);
        x.add(0);
        Check.due("1: size() of a second object", new ChainCover().size(), 0);
    }

    private static void promise2Add() {
        ChainCover x = new ChainCover();
        Check.due("2: add(0)", x.add(0), 1);
        Check.due("2: add(1)", x.add(1), 2);
        Check.due("2: add(2)", x.add(2), 3);
        Check.due("2: add(0)", x.add(0), 4);
        Check.due("2: add(12)", x.add(12), 5);
        Check.due("2: above what is named", x.below(2, 4), true);
        Check.due("2: above what is named", x.below(3, 4), true);
        Check.due("2: above what is below that", x.below(1, 4), true);
        Check.due("2: above what is below that again", x.below(0, 4), true);
        Check.due("2: below nothing", x.below(4, 3), false);
        Check.due("2: not above the rest", x.below(0, 3), false);
        Check.due("2: not above the rest", x.below(2, 3), false);
    }

    private static void promise2AddWrong() {
        ChainCover x = new ChainCover();
        Check.due("2: add(1) to none", x.add(1), BAD);
        Check.due("2: add(-1) to none", x.add(-1), BAD);
        for (int n = 0; n < 10; n++) {
            Check.due("2: add(2^n)", x.add(1 << n), BAD);
            for (int wrong : NEVER_A_SET) {
                Check.due("2: add(" + wrong + ")", x.add(wrong), BAD);
            }
            Check.due("2: BAD adds nothing", x.size(), n);
            Check.due("2: add(2^n - 1)", x.add((1 << n) - 1), n + 1);
        }
        Check.due("2: add(0) to ten", x.add(0), FULL);
        Check.due("2: add(1023) to ten", x.add(1023), FULL);
        for (int wrong : NEVER_A_SET) {
            Check.due("2: FULL comes before BAD, add(" + wrong + ")", x.add(wrong), FULL);
        }
        Check.due("2: FULL adds nothing", x.size(), 10);
        Check.due("2: FULL changes nothing", x.longestChain(1023), 10);
    }

    private static void promise3RemoveLast() {
        ChainCover x = new ChainCover();
        Check.due("3: removeLast() of none", x.removeLast(), BAD);
        Check.due("3: BAD changes nothing", x.size(), 0);
        x = six();
        Check.due("3: removeLast()", x.removeLast(), 5);
        Check.due("3: removeLast()", x.removeLast(), 4);
        Check.due("3: what is gone is below nothing", x.below(2, 4), false);
        Check.due("3: the rest stays", x.below(1, 3), true);
        Check.due("3: what is gone is in no set", x.width(16), BAD);
        Check.due("3: a new one in its place", x.add(2), 5);
        Check.due("3: the new one is above its own", x.below(1, 4), true);
        Check.due("3: the new one forgets the old one's", x.below(2, 4), false);
        x = Orders.tower(10);
        x.turn();
        for (int left = 9; left >= 0; left--) {
            Check.due("3: removeLast() of a tower", x.removeLast(), left);
            Check.due("3: the tower that is left", x.longestChain((1 << left) - 1), left);
        }
        Check.due("3: removeLast() after the last", x.removeLast(), BAD);
        Check.due("3: add after the last", x.add(0), 1);
        x = Orders.alone(10);
        x.removeLast();
        Check.due("3: there is room again", x.add(511), 10);
    }

    private static void promise4Turn() {
        Check.due("4: turn() of none", new ChainCover().turn(), 0);
        Check.due("4: turn() of one", Orders.of(0).turn(), 1);
        ChainCover x = six();
        Check.due("4: turn()", x.turn(), 6);
        // 0 to 5 are now 5 to 0.
        Check.due("4: 0 below 2 is 3 below 5", x.below(3, 5), true);
        Check.due("4: 0 below 3 is 2 below 5", x.below(2, 5), true);
        Check.due("4: 1 below 3 is 2 below 4", x.below(2, 4), true);
        Check.due("4: 2 below 4 is 1 below 3", x.below(1, 3), true);
        Check.due("4: 0 below 4 is 1 below 5", x.below(1, 5), true);
        Check.due("4: 1 not below 2 is 3 not below 4", x.below(3, 4), false);
        Check.due("4: 5 alone is 0 alone", x.below(0, 1), false);
        Check.due("4: nothing else is below 5", x.below(4, 5), false);
        Check.due("4: nothing goes the other way", x.below(5, 3), false);
        Check.due("4: add after turn()", x.add(0b1000), 7);
        Check.due("4: the new one is above 3", x.below(3, 6), true);
        Check.due("4: and above 1, which is below 3", x.below(1, 6), true);
        Check.due("4: and not above 2", x.below(2, 6), false);
        x.removeLast();
        Check.due("4: turn() back", x.turn(), 6);
        Check.due("4: as before", x.below(0, 4), true);
        Check.due("4: as before", x.below(1, 4), false);
        Check.due("4: turn() of ten", Orders.tower(10).turn(), 10);
    }

    private static void promise5Size() {
        ChainCover x = new ChainCover();
        for (int n = 0; n < 10; n++) {
            Check.due("5: size()", x.size(), n);
            x.add(0);
        }
        Check.due("5: size() of ten", x.size(), 10);
        x.add(0);
        Check.due("5: size() after FULL", x.size(), 10);
        x.turn();
        Check.due("5: size() after turn()", x.size(), 10);
        x.removeLast();
        Check.due("5: size() after removeLast()", x.size(), 9);
        x.add(-1);
        Check.due("5: size() after BAD", x.size(), 9);
    }

    private static void promise6Below() {
        ChainCover x = six();
        Check.due("6: below(0, 2)", x.below(0, 2), true);
        Check.due("6: below(2, 0)", x.below(2, 0), false);
        Check.due("6: below(0, 4)", x.below(0, 4), true);
        Check.due("6: below(1, 2)", x.below(1, 2), false);
        Check.due("6: below(2, 3)", x.below(2, 3), false);
        for (int v = 0; v < 6; v++) {
            Check.due("6: below(v, v)", x.below(v, v), false);
            Check.due("6: below(v, 6)", x.below(v, 6), false);
            Check.due("6: below(6, v)", x.below(6, v), false);
        }
        x = Orders.tower(10);
        for (int wrong : NEVER_AN_ELEMENT) {
            Check.due("6: below(" + wrong + ", 9)", x.below(wrong, 9), false);
            Check.due("6: below(0, " + wrong + ")", x.below(0, wrong), false);
            Check.due("6: below(both " + wrong + ")", x.below(wrong, wrong), false);
        }
    }

    private static void promise7Width() {
        ChainCover x = six();
        Check.due("7: width(0)", x.width(0), 0);
        Check.due("7: width of one", x.width(0b10), 1);
        Check.due("7: width of a chain", x.width(0b10101), 1);
        Check.due("7: width of 0, 1, 3", x.width(0b1011), 2);
        Check.due("7: width of all", x.width(0b111111), 3);
        Check.due("7: width of all but 5", x.width(0b11111), 2);
        Check.due("7: what is between counts though it is left out", x.width(0b10001), 1);
        Check.due("7: width(64)", x.width(64), BAD);
        for (int wrong : NEVER_A_SET) {
            Check.due("7: width(" + wrong + ")", x.width(wrong), BAD);
            Check.due("7: width(" + wrong + ") of ten", Orders.alone(10).width(wrong), BAD);
        }
        Check.due("7: ten alone", Orders.alone(10).width(1023), 10);
        Check.due("7: five of ten alone", Orders.alone(10).width(0b1010101010), 5);
        Check.due("7: tower", Orders.tower(10).width(1023), 1);
    }

    private static void promise8Chains() {
        ChainCover x = six();
        Check.due("8: chains(0)", x.chains(0), 0);
        Check.due("8: chains of one", x.chains(0b100000), 1);
        Check.due("8: chains of a chain", x.chains(0b10101), 1);
        Check.due("8: chains of 0, 4 without 2", x.chains(0b10001), 1);
        Check.due("8: chains of all", x.chains(0b111111), 3);
        Check.due("8: chains of 0 to 3", x.chains(0b1111), 2);
        // 2 is above 0 and 1, 3 above 0: the chain 0, 2, taken first, would leave 1 and 3 single.
        Check.due("8: taking the first chain that comes is not enough", Orders.of(0, 0, 3, 1).chains(15), 2);
        // 0 and 1 under 2 under 3 and 4: with 2 in the one chain, the other still goes on from 1 to 4.
        Check.due("8: through a middle", Orders.of(0, 0, 3, 4, 4).chains(31), 2);
        Check.due("8: chains(64)", x.chains(64), BAD);
        for (int wrong : NEVER_A_SET) {
            Check.due("8: chains(" + wrong + ")", x.chains(wrong), BAD);
            Check.due("8: chains(" + wrong + ") of ten", Orders.tower(10).chains(wrong), BAD);
        }
        Check.due("8: ten alone", Orders.alone(10).chains(1023), 10);
        Check.due("8: tower", Orders.tower(10).chains(1023), 1);
        Check.due("8: part of a tower", Orders.tower(10).chains(0b1000100001), 1);
    }

    private static void promise9LongestChain() {
        ChainCover x = six();
        Check.due("9: longestChain(0)", x.longestChain(0), 0);
        Check.due("9: longestChain of one", x.longestChain(0b1000), 1);
        Check.due("9: longestChain of all", x.longestChain(0b111111), 3);
        Check.due("9: without the middle", x.longestChain(0b111011), 2);
        Check.due("9: of an antichain", x.longestChain(0b101100), 1);
        Check.due("9: longestChain(64)", x.longestChain(64), BAD);
        for (int wrong : NEVER_A_SET) {
            Check.due("9: longestChain(" + wrong + ")", x.longestChain(wrong), BAD);
            Check.due("9: longestChain(" + wrong + ") of ten", Orders.tower(10).longestChain(wrong), BAD);
        }
        Check.due("9: ten alone", Orders.alone(10).longestChain(1023), 1);
        Check.due("9: tower", Orders.tower(10).longestChain(1023), 10);
        Check.due("9: part of a tower", Orders.tower(10).longestChain(0b1010110001), 5);
    }

    private static void promise10And11LowestAndHighest() {
        // Largest: {1, 2, 5}, {2, 3, 5}, {3, 4, 5}, {1, 4, 5}, and {0, 1, 5}.
        Check.due("10: lowest()", six().lowest(), 0b100011);
        Check.due("11: highest()", six().highest(), 0b111000);
        ChainCover x = six();
        x.turn();
        Check.due("10: lowest() turned", x.lowest(), 0b000111);
        Check.due("11: highest() turned", x.highest(), 0b110001);
        // One on top of two on top of one: just one largest.
        Check.due("10: just one", Orders.of(0, 1, 1, 6).lowest(), 0b110);
        Check.due("11: just one", Orders.of(0, 1, 1, 6).highest(), 0b110);
        // 0 and 1 both under 2 and 3; 4 is alone.
        Check.due("10: crossed", Orders.of(0, 0, 3, 3, 0).lowest(), 0b10011);
        Check.due("11: crossed", Orders.of(0, 0, 3, 3, 0).highest(), 0b11100);
        // The minimal elements are not always a largest antichain: 0 under 1, 2, 3.
        Check.due("10: not the minimal ones", Orders.of(0, 1, 1, 1).lowest(), 0b1110);
        Check.due("11: not the maximal ones", Orders.of(0, 0, 0, 7).highest(), 0b111);
        Check.due("10: tower", Orders.tower(10).lowest(), 1);
        Check.due("11: tower", Orders.tower(10).highest(), 512);
        Check.due("10: ten alone", Orders.alone(10).lowest(), 1023);
        Check.due("11: ten alone", Orders.alone(10).highest(), 1023);
        Check.due("10: one", Orders.of(0).lowest(), 1);
        Check.due("11: one", Orders.of(0).highest(), 1);
        Check.due("10: none", new ChainCover().lowest(), 0);
        Check.due("11: none", new ChainCover().highest(), 0);
    }

    private static void promise12IsLargest() {
        ChainCover x = six();
        Check.due("12: {0, 1, 5}", x.isLargest(0b100011), true);
        Check.due("12: {2, 3, 5}", x.isLargest(0b101100), true);
        Check.due("12: {1, 4, 5}", x.isLargest(0b110010), true);
        Check.due("12: an antichain that is too small", x.isLargest(0b1100), false);
        Check.due("12: of the right size but with 0 below 3", x.isLargest(0b101001), false);
        Check.due("12: all", x.isLargest(0b111111), false);
        Check.due("12: the empty set", x.isLargest(0), false);
        Check.due("12: the empty set of none", new ChainCover().isLargest(0), true);
        Check.due("12: no set of none", new ChainCover().isLargest(1), false);
        Check.due("12: ten alone", Orders.alone(10).isLargest(1023), true);
        Check.due("12: nine of ten alone", Orders.alone(10).isLargest(1022), false);
        Check.due("12: {9} of a tower", Orders.tower(10).isLargest(512), true);
        Check.due("12: {0, 9} of a tower", Orders.tower(10).isLargest(513), false);
        Check.due("12: isLargest(64 + {0, 1, 5})", x.isLargest(0b1100011), false);
        Check.due("12: isLargest(64 + {0, 1})", x.isLargest(0b1000011), false);
        for (int wrong : NEVER_A_SET) {
            Check.due("12: isLargest(" + wrong + ")", x.isLargest(wrong), false);
            Check.due("12: isLargest(" + wrong + ") of a tower", Orders.tower(10).isLargest(wrong), false);
            Check.due("12: isLargest(" + wrong + ") of ten", Orders.alone(10).isLargest(wrong), false);
            Check.due("12: isLargest(" + wrong + ") of none", new ChainCover().isLargest(wrong), false);
        }
    }

    private static void promise13InSomeLargest() {
        ChainCover x = Orders.of(0, 1, 1, 6, 8);
        Check.due("13: under the two", x.inSomeLargest(0), false);
        Check.due("13: of the two", x.inSomeLargest(1), true);
        Check.due("13: of the two", x.inSomeLargest(2), true);
        Check.due("13: above the two", x.inSomeLargest(3), false);
        Check.due("13: not there", x.inSomeLargest(5), false);
        // {0, 1}, {0, 3} and {2, 3}: 3 is above 1 and 2 above 0 and 1. A largest one for each.
        ChainCover y = Orders.of(0, 0, 3, 2);
        for (int v = 0; v < 4; v++) {
            Check.due("13: inSomeLargest(" + v + ")", y.inSomeLargest(v), true);
        }
        for (int v = 0; v < 10; v++) {
            Check.due("13: tower", Orders.tower(10).inSomeLargest(v), true);
        }
        // Between lowest {0, 1} and highest {4, 5} there is also {2, 3}.
        ChainCover z = Orders.of(0, 0, 3, 3, 12, 12);
        Check.due("13: neither in the lowest nor in the highest", z.inSomeLargest(2), true);
        // 0 and 1 under 2 under 3 and 4: between the lowest and the highest, but in no largest.
        Check.due("13: between two but in none", Orders.of(0, 0, 3, 4, 4).inSomeLargest(2), false);
        z.removeLast();
        Check.due("13: taken away", z.inSomeLargest(5), false);
        for (int wrong : NEVER_AN_ELEMENT) {
            Check.due("13: inSomeLargest(" + wrong + ")", x.inSomeLargest(wrong), false);
            Check.due("13: inSomeLargest(" + wrong + ") of ten", Orders.alone(10).inSomeLargest(wrong), false);
            Check.due("13: inSomeLargest(" + wrong + ") of none", new ChainCover().inSomeLargest(wrong), false);
        }
    }
}
