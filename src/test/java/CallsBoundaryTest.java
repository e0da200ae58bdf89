/**
 * "An object is used for at most 512 calls": the last of them is answered as the first. And rule 7
 * of LANGUAGE.md: no call throws or fails to end, in any state, the calls after the 512th as well;
 * of those nothing is looked at but that they answer.
 */
public final class CallsBoundaryTest {
    private static final int CALLS = 512;
    private static final int MINUTES = 5;
    private static final int[] NUMBERS = {
        Integer.MIN_VALUE, Integer.MIN_VALUE + 1, -1025, -1024, -33, -32, -31, -11, -10, -2, -1,
        0, 1, 2, 3, 7, 8, 9, 10, 11, 15, 16, 31, 32, 33, 63, 64, 127, 255, 256, 511, 512, 513,
        1022, 1023, 1024, 1025, 2047, 65535, 65536, 1 << 30, Integer.MAX_VALUE - 1, Integer.MAX_VALUE,
    };

    private CallsBoundaryTest() {
    }

    public static void main(String[] args) throws InterruptedException {
        Thread tests = new Thread(CallsBoundaryTest::runAll);
        tests.setDaemon(true);
        // An error in the thread would otherwise leave this program with exit code 0.
        tests.setUncaughtExceptionHandler((thread, error) -> {
            error.printStackTrace();
            System.exit(1);
        });
        tests.start();
        tests.join(MINUTES * 60_000L);
        if (tests.isAlive()) {
            System.out.println("a call has not ended after " + MINUTES + " minutes");
            System.exit(1);
        }
        Check.end();
    }

    private static void runAll() {
        lastCallAfterAddsAndRemovals();
        lastCallAfterRefusals();
        lastCallAfterTurns();
        lastCallAfterQuestions();
        everyCallAnswersInEveryState();
        callsAfterTheLastStillAnswer();
    }

    private static void lastCallAfterAddsAndRemovals() {
        ChainCover x = new ChainCover();
        for (int call = 1; call < CALLS; call += 2) {
            Check.due("call " + call + ", add(0)", x.add(0), 1);
            Check.due("call " + (call + 1) + ", removeLast()", x.removeLast(), 0);
        }
    }

    private static void lastCallAfterRefusals() {
        ChainCover full = Orders.tower(10);
        for (int call = 11; call < CALLS; call++) {
            Check.due("call " + call + ", add(0)", full.add(0), ChainCover.FULL);
        }
        Check.due("call 512, longestChain(1023)", full.longestChain(1023), 10);
        ChainCover none = new ChainCover();
        for (int call = 1; call < CALLS; call++) {
            Check.due("call " + call + ", removeLast()", none.removeLast(), ChainCover.BAD);
        }
        Check.due("call 512, add(0)", none.add(0), 1);
    }

    private static void lastCallAfterTurns() {
        // 8 above 1, 9 above 2, the rest alone: turned an even number of times it is as before.
        ChainCover x = Orders.of(0, 0, 0, 0, 0, 0, 0, 0, 2, 4);
        for (int call = 11; call < CALLS - 1; call++) {
            Check.due("call " + call + ", turn()", x.turn(), 10);
        }
        Check.due("call 511, lowest()", x.lowest(), 0b0011111111);
        Check.due("call 512, highest()", x.highest(), 0b1111111001);
    }

    private static void lastCallAfterQuestions() {
        ChainCover x = Orders.tower(10);
        for (int call = 11; call < CALLS; call++) {
            Check.due("call " + call + ", width(1023)", x.width(1023), 1);
        }
        Check.due("call 512, highest()", x.highest(), 512);
    }

    private static void everyCallAnswersInEveryState() {
        for (int n = 0; n <= 10; n++) {
            for (int number : NUMBERS) {
                everyQuestion(Orders.alone(n), number);
                everyQuestion(Orders.tower(n), number);
                everyQuestion(Orders.mixed(n), number);
                ChainCover turned = Orders.mixed(n);
                turned.turn();
                everyQuestion(turned, number);
                everyChange(Orders.mixed(n), number);
            }
        }
    }

    private static void callsAfterTheLastStillAnswer() {
        ChainCover x = new ChainCover();
        for (int round = 0; round < 30; round++) {
            for (int number : NUMBERS) {
                everyChange(x, number);
                everyQuestion(x, number);
            }
            x.add(0);
        }
        for (int call = 0; call < 10_000; call++) {
            x.turn();
            x.removeLast();
        }
        for (int call = 0; call < 10_000; call++) {
            x.add(0);
            x.turn();
        }
        everyQuestion(x, 0);
    }

    private static void everyQuestion(ChainCover x, int number) {
        x.size();
        x.lowest();
        x.highest();
        x.width(number);
        x.chains(number);
        x.longestChain(number);
        x.isLargest(number);
        x.inSomeLargest(number);
        for (int other : NUMBERS) {
            x.below(number, other);
        }
    }

    private static void everyChange(ChainCover x, int number) {
        x.add(number);
        x.turn();
        x.removeLast();
        x.turn();
        x.add(number);
    }
}
