/** The boundary cases of promises 6 to 13: one test for each that a sentence of the document names. */
public final class QuestionBoundariesTest {
    private static final int BAD = ChainCover.BAD;

    private QuestionBoundariesTest() {
    }

    public static void main(String[] args) {
        belowOfAnElementAndItself();
        belowOfTheFirstAndTheLast();
        belowOfWhatIsNotThere();
        belowOfWhatWasTakenAway();
        widthOfWhatIsNoSet();
        widthOfTheEmptySet();
        widthOfAll();
        widthOfTheLastAlone();
        chainsOfWhatIsNoSet();
        chainsOfTheEmptySet();
        chainsOfAll();
        chainsOfTheLastAlone();
        longestChainOfWhatIsNoSet();
        longestChainOfTheEmptySet();
        longestChainOfAll();
        longestChainOfTheLastAlone();
        lowestAndHighestOfNone();
        lowestAndHighestOfOne();
        lowestAndHighestWhereThereIsJustOneLargest();
        lowestAndHighestThatAreOtherSets();
        lowestAndHighestThatShareElements();
        isLargestOfWhatIsNoSet();
        isLargestOfTheEmptySetWithElements();
        isLargestOfTheEmptySetWithoutElements();
        isLargestOfAll();
        isLargestOfASizeNextToTheWidth();
        inSomeLargestOfWhatIsNotThere();
        inSomeLargestOfWhatWasTakenAway();
        inSomeLargestOfTheFirstAndTheLast();
        questionsChangeNothing();
        Check.end();
    }

    /** Three orders of n elements: one antichain, one chain, and neither. */
    private static ChainCover[] orders(int n) {
        return new ChainCover[] {Orders.alone(n), Orders.tower(n), Orders.mixed(n)};
    }

    // Promise 6: "false for u = v and if one of them is not there."

    private static void belowOfAnElementAndItself() {
        for (int n = 0; n <= 10; n++) {
            for (ChainCover x : orders(n)) {
                for (int v = 0; v < n; v++) {
                    Check.due("6, n = " + n + ": below(" + v + ", " + v + ")", x.below(v, v), false);
                }
            }
        }
    }

    private static void belowOfTheFirstAndTheLast() {
        for (int n = 2; n <= 10; n++) {
            Check.due("6: below(0, n - 1) of a tower of " + n, Orders.tower(n).below(0, n - 1), true);
            Check.due("6: below(n - 1, 0) of a tower of " + n, Orders.tower(n).below(n - 1, 0), false);
            Check.due("6: below(n - 2, n - 1) of a tower of " + n, Orders.tower(n).below(n - 2, n - 1), true);
            Check.due("6: below(0, n - 1) of " + n + " alone", Orders.alone(n).below(0, n - 1), false);
        }
    }

    private static void belowOfWhatIsNotThere() {
        for (int n = 0; n <= 10; n++) {
            ChainCover x = Orders.tower(n);
            for (int wrong : Orders.wrongElements(n)) {
                String of = "6, n = " + n + ": below with " + wrong;
                Check.due(of + " and 0", x.below(wrong, 0), false);
                Check.due("0 and " + of, x.below(0, wrong), false);
                Check.due(of + " and n - 1", x.below(wrong, n - 1), false);
                Check.due("n - 1 and " + of, x.below(n - 1, wrong), false);
                Check.due(of + " twice", x.below(wrong, wrong), false);
            }
            Check.due("6: below(-1, n) of " + n, x.below(-1, n), false);
            Check.due("6: below(n, -1) of " + n, x.below(n, -1), false);
        }
    }

    private static void belowOfWhatWasTakenAway() {
        for (int n = 2; n <= 10; n++) {
            ChainCover x = Orders.tower(n);
            Check.due("6: below(n - 2, n - 1) before", x.below(n - 2, n - 1), true);
            x.removeLast();
            Check.due("6: below(n - 2, n - 1) after", x.below(n - 2, n - 1), false);
            Check.due("6: below(0, n - 1) after", x.below(0, n - 1), false);
        }
    }

    // Promise 7: "BAD if it is not a set of the order."

    private static void widthOfWhatIsNoSet() {
        for (int n = 0; n <= 10; n++) {
            for (ChainCover x : orders(n)) {
                for (int wrong : Orders.wrongSets(n)) {
                    Check.due("7, n = " + n + ": width(" + wrong + ")", x.width(wrong), BAD);
                }
            }
        }
    }

    private static void widthOfTheEmptySet() {
        for (int n = 0; n <= 10; n++) {
            for (ChainCover x : orders(n)) {
                Check.due("7, n = " + n + ": width(0)", x.width(0), 0);
            }
        }
    }

    private static void widthOfAll() {
        for (int n = 1; n <= 10; n++) {
            int all = Orders.all(n);
            Check.due("7: all of " + n + " alone", Orders.alone(n).width(all), n);
            Check.due("7: all but 0 of " + n + " alone", Orders.alone(n).width(all - 1), n - 1);
            Check.due("7: all of a tower of " + n, Orders.tower(n).width(all), 1);
        }
    }

    private static void widthOfTheLastAlone() {
        for (int n = 1; n <= 10; n++) {
            for (ChainCover x : orders(n)) {
                Check.due("7, n = " + n + ": width of the last", x.width(1 << (n - 1)), 1);
                Check.due("7, n = " + n + ": width of the first", x.width(1), 1);
            }
        }
    }

    // Promise 8: "(0 for the empty set); BAD if it is not a set of the order."

    private static void chainsOfWhatIsNoSet() {
        for (int n = 0; n <= 10; n++) {
            for (ChainCover x : orders(n)) {
                for (int wrong : Orders.wrongSets(n)) {
                    Check.due("8, n = " + n + ": chains(" + wrong + ")", x.chains(wrong), BAD);
                }
            }
        }
    }

    private static void chainsOfTheEmptySet() {
        for (int n = 0; n <= 10; n++) {
            for (ChainCover x : orders(n)) {
                Check.due("8, n = " + n + ": chains(0)", x.chains(0), 0);
            }
        }
    }

    private static void chainsOfAll() {
        for (int n = 1; n <= 10; n++) {
            int all = Orders.all(n);
            Check.due("8: all of " + n + " alone", Orders.alone(n).chains(all), n);
            Check.due("8: all but 0 of " + n + " alone", Orders.alone(n).chains(all - 1), n - 1);
            Check.due("8: all of a tower of " + n, Orders.tower(n).chains(all), 1);
        }
    }

    /** A chain has one or more elements, so one element is a chain. */
    private static void chainsOfTheLastAlone() {
        for (int n = 1; n <= 10; n++) {
            for (ChainCover x : orders(n)) {
                Check.due("8, n = " + n + ": chains of the last", x.chains(1 << (n - 1)), 1);
                Check.due("8, n = " + n + ": chains of the first", x.chains(1), 1);
            }
        }
    }

    // Promise 9: "(0 for the empty set); BAD if it is not a set of the order."

    private static void longestChainOfWhatIsNoSet() {
        for (int n = 0; n <= 10; n++) {
            for (ChainCover x : orders(n)) {
                for (int wrong : Orders.wrongSets(n)) {
                    Check.due("9, n = " + n + ": longestChain(" + wrong + ")", x.longestChain(wrong), BAD);
                }
            }
        }
    }

    private static void longestChainOfTheEmptySet() {
        for (int n = 0; n <= 10; n++) {
            for (ChainCover x : orders(n)) {
                Check.due("9, n = " + n + ": longestChain(0)", x.longestChain(0), 0);
            }
        }
    }

    private static void longestChainOfAll() {
        for (int n = 1; n <= 10; n++) {
            int all = Orders.all(n);
            Check.due("9: all of " + n + " alone", Orders.alone(n).longestChain(all), 1);
            Check.due("9: all of a tower of " + n, Orders.tower(n).longestChain(all), n);
            Check.due("9: all but 0 of a tower of " + n, Orders.tower(n).longestChain(all - 1), n - 1);
        }
    }

    /** A chain has one or more elements, so one element is a chain. */
    private static void longestChainOfTheLastAlone() {
        for (int n = 1; n <= 10; n++) {
            for (ChainCover x : orders(n)) {
                Check.due("9, n = " + n + ": longestChain of the last", x.longestChain(1 << (n - 1)), 1);
                Check.due("9, n = " + n + ": longestChain of the first", x.longestChain(1), 1);
            }
        }
    }

    // Promises 10 and 11, and Terms: "There is always just one of each."

    /** The empty set is an antichain, and where there are no elements it is the largest. */
    private static void lowestAndHighestOfNone() {
        lowestAndHighest("new", new ChainCover(), 0, 0);
        ChainCover emptied = Orders.mixed(10);
        for (int i = 0; i < 10; i++) {
            emptied.removeLast();
        }
        lowestAndHighest("emptied", emptied, 0, 0);
        emptied.turn();
        lowestAndHighest("emptied and turned", emptied, 0, 0);
    }

    private static void lowestAndHighestOfOne() {
        lowestAndHighest("one", Orders.alone(1), 1, 1);
        ChainCover left = Orders.tower(2);
        left.removeLast();
        lowestAndHighest("one left of two", left, 1, 1);
    }

    private static void lowestAndHighestWhereThereIsJustOneLargest() {
        for (int n = 1; n <= 10; n++) {
            lowestAndHighest(n + " alone", Orders.alone(n), Orders.all(n), Orders.all(n));
        }
        for (int n = 3; n <= 10; n++) {
            lowestAndHighest("under all others, " + n, withOneUnderAll(n), Orders.all(n) - 1, Orders.all(n) - 1);
            lowestAndHighest("above all others, " + n, withOneAboveAll(n), Orders.all(n - 1), Orders.all(n - 1));
        }
        // 0 under 1 to 8 under 9.
        ChainCover lens = Orders.of(0, 1, 1, 1, 1, 1, 1, 1, 1, 510);
        lowestAndHighest("lens of ten", lens, 510, 510);
        lens.turn();
        lowestAndHighest("lens of ten turned", lens, 510, 510);
        // 2 above 0 and 1: the largest is {0, 1}, and with 3, which is alone, {0, 1, 3}.
        lowestAndHighest("and one alone", Orders.of(0, 0, 3, 0), 0b1011, 0b1011);
    }

    private static void lowestAndHighestThatAreOtherSets() {
        for (int n = 2; n <= 10; n++) {
            lowestAndHighest("tower of " + n, Orders.tower(n), 1, 1 << (n - 1));
        }
        // 0 to 4 all under each of 5 to 9: no element is in both.
        lowestAndHighest("two floors", Orders.of(0, 0, 0, 0, 0, 31, 31, 31, 31, 31), 31, 992);
        // Five towers of two.
        lowestAndHighest("five towers", Orders.of(0, 0, 0, 0, 0, 1, 2, 4, 8, 16), 31, 992);
    }

    /** "below, or is": what is in both stands for itself. */
    private static void lowestAndHighestThatShareElements() {
        // 1 above 0, the rest alone.
        lowestAndHighest("only 0 differs", Orders.of(0, 1, 0, 0, 0, 0, 0, 0, 0, 0), 1021, 1022);
        // Two alone, then a tower of eight.
        ChainCover x = Orders.of(0, 0, 0, 4, 8, 16, 32, 64, 128, 256);
        lowestAndHighest("only the tower's differs", x, 0b111, 0b1000000011);
    }

    private static void lowestAndHighest(String what, ChainCover x, int lowest, int highest) {
        Check.due("10: lowest() of " + what, x.lowest(), lowest);
        Check.due("11: highest() of " + what, x.highest(), highest);
    }

    private static ChainCover withOneUnderAll(int n) {
        ChainCover x = new ChainCover();
        x.add(0);
        for (int v = 1; v < n; v++) {
            x.add(1);
        }
        return x;
    }

    private static ChainCover withOneAboveAll(int n) {
        ChainCover x = Orders.alone(n - 1);
        x.add(Orders.all(n - 1));
        return x;
    }

    // Promise 12: "false if it is not a set of the order."

    private static void isLargestOfWhatIsNoSet() {
        for (int n = 0; n <= 10; n++) {
            for (ChainCover x : orders(n)) {
                for (int wrong : Orders.wrongSets(n)) {
                    Check.due("12, n = " + n + ": isLargest(" + wrong + ")", x.isLargest(wrong), false);
                }
            }
            // As many bits as a largest antichain has, but one of them of no element.
            int beside = (Orders.all(n) + 1) | (Orders.all(n) >> 1);
            Check.due("12, n = " + n + ": isLargest(" + beside + ")", Orders.alone(n).isLargest(beside), false);
            int after = 1 << n;
            Check.due("12, n = " + n + ": isLargest(" + after + ")", Orders.tower(n).isLargest(after), false);
        }
    }

    private static void isLargestOfTheEmptySetWithElements() {
        for (int n = 1; n <= 10; n++) {
            for (ChainCover x : orders(n)) {
                Check.due("12, n = " + n + ": isLargest(0)", x.isLargest(0), false);
            }
        }
    }

    private static void isLargestOfTheEmptySetWithoutElements() {
        ChainCover x = new ChainCover();
        Check.due("12: isLargest(0) of none", x.isLargest(0), true);
        Check.due("12: isLargest(1) of none", x.isLargest(1), false);
        Check.due("12: isLargest(-1) of none", x.isLargest(-1), false);
        x.add(0);
        Check.due("12: isLargest(0) of one", x.isLargest(0), false);
        Check.due("12: isLargest(1) of one", x.isLargest(1), true);
        x.removeLast();
        Check.due("12: isLargest(0) of none again", x.isLargest(0), true);
        Check.due("12: isLargest(1) of none again", x.isLargest(1), false);
    }

    private static void isLargestOfAll() {
        for (int n = 1; n <= 10; n++) {
            int all = Orders.all(n);
            Check.due("12: all of " + n + " alone", Orders.alone(n).isLargest(all), true);
            Check.due("12: all but 0 of " + n + " alone", Orders.alone(n).isLargest(all - 1), false);
            Check.due("12: all but the last of " + n + " alone", Orders.alone(n).isLargest(all >> 1), false);
            Check.due("12: all of a tower of " + n, Orders.tower(n).isLargest(all), n == 1);
            Check.due("12: the last of a tower of " + n, Orders.tower(n).isLargest(1 << (n - 1)), true);
            Check.due("12: the first of a tower of " + n, Orders.tower(n).isLargest(1), true);
        }
    }

    private static void isLargestOfASizeNextToTheWidth() {
        // 0 under 1 to 8 under 9: the width is 8.
        ChainCover x = Orders.of(0, 1, 1, 1, 1, 1, 1, 1, 1, 510);
        Check.due("12: the eight", x.isLargest(510), true);
        Check.due("12: seven of them", x.isLargest(508), false);
        Check.due("12: seven of them and 0", x.isLargest(509), false);
        Check.due("12: seven of them and 9", x.isLargest(1020), false);
        Check.due("12: the eight and 0", x.isLargest(511), false);
        Check.due("12: the eight and 9", x.isLargest(1022), false);
        // 2 above 0 and 1, 4 above 1 and 3: the width is 3.
        ChainCover y = Orders.of(0, 0, 0b11, 0, 0b1010);
        Check.due("12: {0, 1, 3}", y.isLargest(0b01011), true);
        Check.due("12: {2, 4}, which nothing can be put to", y.isLargest(0b10100), false);
        Check.due("12: {2, 3}, which nothing can be put to", y.isLargest(0b01100), false);
    }

    // Promise 13: "false if there is no such element."

    private static void inSomeLargestOfWhatIsNotThere() {
        for (int n = 0; n <= 10; n++) {
            for (ChainCover x : orders(n)) {
                for (int wrong : Orders.wrongElements(n)) {
                    Check.due("13, n = " + n + ": inSomeLargest(" + wrong + ")", x.inSomeLargest(wrong), false);
                }
            }
        }
    }

    private static void inSomeLargestOfWhatWasTakenAway() {
        for (int n = 1; n <= 10; n++) {
            for (ChainCover x : orders(n)) {
                x.inSomeLargest(n - 1);
                x.removeLast();
                Check.due("13: the last of " + n + ", taken away", x.inSomeLargest(n - 1), false);
            }
        }
    }

    private static void inSomeLargestOfTheFirstAndTheLast() {
        for (int n = 1; n <= 10; n++) {
            Check.due("13: 0 of " + n + " alone", Orders.alone(n).inSomeLargest(0), true);
            Check.due("13: n - 1 of " + n + " alone", Orders.alone(n).inSomeLargest(n - 1), true);
            Check.due("13: 0 of a tower of " + n, Orders.tower(n).inSomeLargest(0), true);
            Check.due("13: n - 1 of a tower of " + n, Orders.tower(n).inSomeLargest(n - 1), true);
        }
        for (int n = 3; n <= 10; n++) {
            Check.due("13: 0 under all others, " + n, withOneUnderAll(n).inSomeLargest(0), false);
            Check.due("13: n - 1 with 0 under all, " + n, withOneUnderAll(n).inSomeLargest(n - 1), true);
            Check.due("13: n - 1 above all others, " + n, withOneAboveAll(n).inSomeLargest(n - 1), false);
            Check.due("13: 0 with n - 1 above all, " + n, withOneAboveAll(n).inSomeLargest(0), true);
        }
    }

    // Promises 6 to 13 tell of no change.

    private static void questionsChangeNothing() {
        for (int n = 0; n <= 10; n++) {
            ChainCover x = Orders.mixed(n);
            PlainOrder want = Orders.plainOf(Orders.mixedUnders(n));
            for (int number : new int[] {-1, 0, n - 1, n, Orders.all(n), 1 << n, Orders.LEAST, Orders.GREATEST}) {
                Compare.set("asked, n = " + n + ", ", number, x, want);
                Compare.element("asked, n = " + n + ", ", number, x, want);
                Compare.pair("asked, n = " + n + ", ", number, number, x, want);
            }
            Compare.whole("asked before, n = " + n + ", ", x, want);
            Check.due("turn() after questions, n = " + n, x.turn(), want.turn());
            Compare.whole("asked before and turned, n = " + n + ", ", x, want);
        }
    }
}
