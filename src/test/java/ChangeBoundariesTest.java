/** The boundary cases of promises 1 to 5: one test for each that a sentence of the document names. */
public final class ChangeBoundariesTest {
    private static final int BAD = ChainCover.BAD;
    private static final int FULL = ChainCover.FULL;
    private static final int LEAST = Orders.LEAST;
    private static final int GREATEST = Orders.GREATEST;

    private ChangeBoundariesTest() {
    }

    public static void main(String[] args) {
        newObjectHasNoElements();
        newObjectOwesNothingToAnother();
        addTakesTheSmallestAndTheGreatestSet();
        addRefusesWhatIsNoSet();
        addRefusedAsBadChangesNothing();
        addRefusesAnEleventh();
        addAnswersFullBeforeBad();
        addAnswersBadAtNine();
        addRefusedAsFullChangesNothing();
        addHasRoomAgainAfterFull();
        addOfTheEmptySetIsAboveNothing();
        addOfAllIsAboveAll();
        addIsAboveWhatIsBelowTheNamed();
        addIsBelowNothing();
        addForgetsWhatStoodThereBefore();
        removeLastOfNone();
        removeLastRefusedChangesNothing();
        removeLastCountsDownFromTen();
        removeLastLeavesTheOthers();
        removeLastMakesItsSetsBad();
        turnOfNone();
        turnOfOne();
        turnOfTen();
        turnRenumbersEveryElement();
        turnLeavesTheMiddleNumber();
        turnTwiceIsAsBefore();
        turnThenRemoveLastTakesTheFirst();
        turnForgetsWhatWasTakenAway();
        sizeFromNoneToTenAndBack();
        sizeAfterRefusedCalls();
        Check.end();
    }

    /** All that can be asked is answered as by want, which has seen none of the refused calls. */
    private static void isStill(String what, ChainCover got, PlainOrder want) {
        Compare.whole(what + ", ", got, want);
        int all = Orders.all(want.size());
        for (int set : new int[] {-1, 0, 1, all / 2, all / 2 + 1, all - 1, all, all + 1}) {
            Compare.set(what + ", ", set, got, want);
        }
    }

    // Promise 1: "No elements."

    private static void newObjectHasNoElements() {
        isStill("1: new", new ChainCover(), new PlainOrder());
        Check.due("1: size()", new ChainCover().size(), 0);
        Check.due("1: the first element", new ChainCover().add(0), 1);
    }

    private static void newObjectOwesNothingToAnother() {
        ChainCover first = Orders.tower(10);
        ChainCover second = new ChainCover();
        isStill("1: a second object", second, new PlainOrder());
        second.add(0);
        second.add(0);
        Check.due("1: the second's 0 and 1", second.below(0, 1), false);
        isStill("1: the first object", first, Orders.plainOf(Orders.towerUnders(10)));
    }

    // Promise 2: "under is not a set of the order: BAD", "10 elements are there: FULL".

    private static void addTakesTheSmallestAndTheGreatestSet() {
        for (int n = 0; n < 10; n++) {
            Check.due("2: add(0) to " + n, Orders.alone(n).add(0), n + 1);
            Check.due("2: add(0) to a tower of " + n, Orders.tower(n).add(0), n + 1);
            Check.due("2: add(2^n - 1) to " + n, Orders.alone(n).add(Orders.all(n)), n + 1);
            Check.due("2: add(2^n - 1) to a tower of " + n, Orders.tower(n).add(Orders.all(n)), n + 1);
        }
    }

    private static void addRefusesWhatIsNoSet() {
        for (int n = 0; n < 10; n++) {
            for (int wrong : Orders.wrongSets(n)) {
                Check.due("2: add(" + wrong + ") to " + n, Orders.mixed(n).add(wrong), BAD);
            }
        }
    }

    private static void addRefusedAsBadChangesNothing() {
        for (int n = 0; n < 10; n++) {
            ChainCover x = Orders.mixed(n);
            for (int wrong : Orders.wrongSets(n)) {
                x.add(wrong);
            }
            PlainOrder want = Orders.plainOf(Orders.mixedUnders(n));
            isStill("2: after BAD at " + n, x, want);
            Check.due("2: add after BAD at " + n, x.add(0), n + 1);
            Check.due("2: above nothing after BAD at " + n, x.longestChain(1 << n), 1);
            for (int u = 0; u < n; u++) {
                Check.due("2: above nothing after BAD at " + n, x.below(u, n), false);
            }
        }
    }

    private static void addRefusesAnEleventh() {
        for (int under : new int[] {0, 1, 512, 1022, 1023}) {
            Check.due("2: the tenth, add(" + under / 2 + ")", Orders.mixed(9).add(under / 2), 10);
            Check.due("2: the eleventh, add(" + under + ")", Orders.mixed(10).add(under), FULL);
            Check.due("2: the eleventh, add(" + under + ")", Orders.alone(10).add(under), FULL);
            Check.due("2: the eleventh, add(" + under + ")", Orders.tower(10).add(under), FULL);
        }
    }

    private static void addAnswersFullBeforeBad() {
        for (int wrong : Orders.wrongSets(10)) {
            Check.due("2: FULL before BAD, add(" + wrong + ")", Orders.mixed(10).add(wrong), FULL);
        }
    }

    private static void addAnswersBadAtNine() {
        for (int wrong : new int[] {-1, 512, 513, 1023, 1024, LEAST, GREATEST}) {
            Check.due("2: nine are not ten, add(" + wrong + ")", Orders.mixed(9).add(wrong), BAD);
        }
    }

    private static void addRefusedAsFullChangesNothing() {
        for (int under : new int[] {0, 1, 1023, 1024, -1, LEAST, GREATEST}) {
            ChainCover x = Orders.mixed(10);
            x.add(under);
            isStill("2: after FULL of add(" + under + ")", x, Orders.plainOf(Orders.mixedUnders(10)));
        }
    }

    private static void addHasRoomAgainAfterFull() {
        ChainCover x = Orders.alone(10);
        x.add(0);
        x.removeLast();
        Check.due("2: room for one", x.add(511), 10);
        Check.due("2: the new tenth is above 0", x.below(0, 9), true);
        Check.due("2: room for no more", x.add(511), FULL);
        x.turn();
        Check.due("2: room for no more after turn()", x.add(0), FULL);
    }

    private static void addOfTheEmptySetIsAboveNothing() {
        for (int n = 0; n < 10; n++) {
            ChainCover x = Orders.tower(n);
            x.add(0);
            for (int u = 0; u <= n; u++) {
                Check.due("2: above nothing, below(" + u + ", " + n + ")", x.below(u, n), false);
            }
        }
    }

    private static void addOfAllIsAboveAll() {
        for (int n = 0; n < 10; n++) {
            ChainCover x = Orders.alone(n);
            x.add(Orders.all(n));
            for (int u = 0; u < n; u++) {
                Check.due("2: above all, below(" + u + ", " + n + ")", x.below(u, n), true);
            }
            Check.due("2: not above itself", x.below(n, n), false);
        }
    }

    private static void addIsAboveWhatIsBelowTheNamed() {
        ChainCover x = Orders.tower(10);
        for (int v = 0; v < 10; v++) {
            for (int u = 0; u < 10; u++) {
                Check.due("2: tower, below(" + u + ", " + v + ")", x.below(u, v), u < v);
            }
        }
        ChainCover y = Orders.tower(4);
        y.add(0b10);
        Check.due("2: above 0, which is below 1", y.below(0, 4), true);
        Check.due("2: above 1", y.below(1, 4), true);
        Check.due("2: not above 2, which is above 1", y.below(2, 4), false);
        Check.due("2: not above 3, which is above 1", y.below(3, 4), false);
    }

    private static void addIsBelowNothing() {
        for (int n = 0; n < 10; n++) {
            ChainCover x = Orders.tower(n);
            x.add(Orders.all(n));
            for (int v = 0; v <= n; v++) {
                Check.due("2: below nothing, below(" + n + ", " + v + ")", x.below(n, v), false);
            }
        }
    }

    private static void addForgetsWhatStoodThereBefore() {
        for (int n = 1; n <= 10; n++) {
            ChainCover x = Orders.tower(n);
            x.removeLast();
            x.add(0);
            int last = n - 1;
            for (int u = 0; u < n; u++) {
                Check.due("2: a new last, below(" + u + ", " + last + ")", x.below(u, last), false);
                Check.due("2: a new last, below(" + last + ", " + u + ")", x.below(last, u), false);
            }
        }
    }

    // Promise 3: "answers the new number of elements, BAD if there was none."

    private static void removeLastOfNone() {
        Check.due("3: of a new object", new ChainCover().removeLast(), BAD);
        ChainCover x = Orders.alone(1);
        Check.due("3: of one", x.removeLast(), 0);
        Check.due("3: of none again", x.removeLast(), BAD);
        Check.due("3: of none once more", x.removeLast(), BAD);
        x.turn();
        Check.due("3: of none after turn()", x.removeLast(), BAD);
    }

    private static void removeLastRefusedChangesNothing() {
        ChainCover x = new ChainCover();
        for (int i = 0; i < 11; i++) {
            x.removeLast();
        }
        isStill("3: after BAD", x, new PlainOrder());
        for (int n = 0; n < 10; n++) {
            Check.due("3: add after BAD", x.add(Orders.all(n)), n + 1);
        }
        isStill("3: full after BAD", x, Orders.plainOf(Orders.towerUnders(10)));
    }

    private static void removeLastCountsDownFromTen() {
        ChainCover x = Orders.mixed(10);
        for (int left = 9; left >= 0; left--) {
            Check.due("3: left", x.removeLast(), left);
        }
        Check.due("3: none left", x.removeLast(), BAD);
    }

    private static void removeLastLeavesTheOthers() {
        for (int n = 1; n <= 10; n++) {
            ChainCover x = Orders.mixed(n);
            x.removeLast();
            isStill("3: one less than " + n, x, Orders.plainOf(Orders.mixedUnders(n - 1)));
        }
    }

    private static void removeLastMakesItsSetsBad() {
        for (int n = 1; n <= 10; n++) {
            ChainCover x = Orders.tower(n);
            int set = 1 << (n - 1);
            Check.due("3: width(" + set + ") before", x.width(set), 1);
            x.removeLast();
            Check.due("3: width(" + set + ")", x.width(set), BAD);
            Check.due("3: width(" + (set - 1) + ")", x.width(set - 1), n == 1 ? 0 : 1);
            Check.due("3: add(" + set + ")", x.add(set), BAD);
        }
    }

    // Promise 4: "element v becomes element n - 1 - v. Answers n."

    private static void turnOfNone() {
        ChainCover x = new ChainCover();
        Check.due("4: of none", x.turn(), 0);
        isStill("4: none turned", x, new PlainOrder());
        Check.due("4: add after it", x.add(0), 1);
        x.removeLast();
        Check.due("4: of none again", x.turn(), 0);
        isStill("4: none turned again", x, new PlainOrder());
    }

    private static void turnOfOne() {
        ChainCover x = Orders.alone(1);
        Check.due("4: of one", x.turn(), 1);
        isStill("4: one turned", x, Orders.plainOf(0));
        Check.due("4: add after it", x.add(1), 2);
        Check.due("4: below(0, 1) after it", x.below(0, 1), true);
    }

    private static void turnOfTen() {
        ChainCover x = Orders.tower(10);
        Check.due("4: of ten", x.turn(), 10);
        isStill("4: a tower is as it was", x, Orders.plainOf(Orders.towerUnders(10)));
        // 9 is above 0 alone: turned, 9 is what was 0, and 0 what was 9.
        ChainCover y = Orders.of(0, 0, 0, 0, 0, 0, 0, 0, 0, 1);
        Check.due("4: of ten", y.turn(), 10);
        Check.due("4: 0 below 9", y.below(0, 9), true);
        Check.due("4: not 9 below 0", y.below(9, 0), false);
        // 1 is above 0: turned, 8 is below 9.
        ChainCover z = Orders.of(0, 1, 0, 0, 0, 0, 0, 0, 0, 0);
        Check.due("4: of ten", z.turn(), 10);
        Check.due("4: 8 below 9", z.below(8, 9), true);
        Check.due("4: no longer 0 below 1", z.below(0, 1), false);
        Check.due("4: FULL still", z.add(0), FULL);
    }

    private static void turnRenumbersEveryElement() {
        for (int n = 0; n <= 10; n++) {
            ChainCover before = Orders.mixed(n);
            ChainCover x = Orders.mixed(n);
            Check.due("4: of " + n, x.turn(), n);
            for (int u = 0; u < n; u++) {
                for (int v = 0; v < n; v++) {
                    String call = "4: " + n + " turned, below(" + u + ", " + v + ")";
                    Check.due(call, x.below(u, v), before.below(n - 1 - v, n - 1 - u));
                }
            }
        }
    }

    private static void turnLeavesTheMiddleNumber() {
        // 1 is above 0, and 2 alone: turned, 1 is still 1 but below what is now 2.
        ChainCover x = Orders.of(0, 1, 0);
        Check.due("4: of three", x.turn(), 3);
        Check.due("4: the middle one is below 2", x.below(1, 2), true);
        Check.due("4: the middle one is above nothing", x.below(0, 1), false);
    }

    private static void turnTwiceIsAsBefore() {
        for (int n = 0; n <= 10; n++) {
            ChainCover x = Orders.mixed(n);
            x.turn();
            Check.due("4: of " + n + " a second time", x.turn(), n);
            isStill("4: " + n + " turned twice", x, Orders.plainOf(Orders.mixedUnders(n)));
        }
    }

    private static void turnThenRemoveLastTakesTheFirst() {
        // 0 is below 1 to 9, which are alone without it.
        ChainCover x = Orders.of(0, 1, 1, 1, 1, 1, 1, 1, 1, 1);
        Check.due("4: width before", x.width(1023), 9);
        x.turn();
        Check.due("4: below(0, 9), which was 0 and 9", x.below(0, 9), true);
        Check.due("4: removeLast() after turn()", x.removeLast(), 9);
        isStill("4: without what was 0", x, Orders.plainOf(new int[9]));
    }

    private static void turnForgetsWhatWasTakenAway() {
        ChainCover x = Orders.of(0, 0, 3);
        x.removeLast();
        Check.due("4: of the two that are left", x.turn(), 2);
        isStill("4: two alone", x, Orders.plainOf(0, 0));
        x.add(0);
        x.turn();
        isStill("4: three alone", x, Orders.plainOf(0, 0, 0));
    }

    // Promise 5: "The number of elements."

    private static void sizeFromNoneToTenAndBack() {
        ChainCover x = new ChainCover();
        for (int n = 0; n < 10; n++) {
            Check.due("5: size() on the way up", x.size(), n);
            x.add(Orders.all(n));
        }
        for (int n = 10; n > 0; n--) {
            Check.due("5: size() on the way down", x.size(), n);
            x.turn();
            Check.due("5: size() after turn()", x.size(), n);
            x.removeLast();
        }
        Check.due("5: size() of none", x.size(), 0);
    }

    private static void sizeAfterRefusedCalls() {
        ChainCover none = new ChainCover();
        none.removeLast();
        Check.due("5: after removeLast() of none", none.size(), 0);
        none.add(1);
        Check.due("5: after BAD of none", none.size(), 0);
        ChainCover nine = Orders.alone(9);
        nine.add(512);
        Check.due("5: after BAD of nine", nine.size(), 9);
        ChainCover ten = Orders.alone(10);
        ten.add(0);
        Check.due("5: after FULL", ten.size(), 10);
        ten.add(-1);
        Check.due("5: after FULL of no set", ten.size(), 10);
    }
}
