/** Long mixed runs of calls, the same at each start, in which the program is held against the model. */
final class ModelTests {
    private static final int LONG_RUNS = 3000;
    private static final int SEEN_RUNS = 3000;
    private static final int CALLS_BEFORE_LOOK = 155;

    /** Numbers that look mixed, always the same ones. */
    private static final class Numbers {
        private long state;

        Numbers(long seed) {
            state = seed * 7919 + 17;
        }

        int below(int n) {
            state = state * 6364136223846793005L + 1442695040888963407L;
            return (int) ((state >>> 33) % n);
        }
    }

    private final Numbers numbers;
    private final Twin twin = new Twin();
    private final int sizes;
    private final int failures;

    private ModelTests(int seed) {
        numbers = new Numbers(seed);
        sizes = 1 + numbers.below(3);
        failures = numbers.below(30);
    }

    public static void main(String[] args) {
        int good = 0;
        for (int run = 0; run < LONG_RUNS; run++) {
            good += new ModelTests(run).run(512) ? 1 : 0;
        }
        for (int run = 0; run < SEEN_RUNS; run++) {
            ModelTests test = new ModelTests(run + LONG_RUNS);
            good += test.run(CALLS_BEFORE_LOOK) && test.bringUpAndLook() ? 1 : 0;
        }
        Check.same("runs that went as the model", good, LONG_RUNS + SEEN_RUNS);
        Check.end("ModelTests");
    }

    private boolean run(int calls) {
        boolean same = true;
        for (int i = 0; i < calls && same; i++) {
            same = anyCall();
        }
        return same;
    }

    private boolean bringUpAndLook() {
        return twin.call(Twin.Kind.ORDER, 1000, 0, 0) && twin.call(Twin.Kind.RECOVER, 0, 0, 0) && twin.lookAtAll();
    }

    private boolean anyCall() {
        if (numbers.below(100) < failures) {
            return twin.call(Twin.Kind.ORDER, someMoment(), 0, 0);
        }
        if (twin.isDown() && numbers.below(3) > 0) {
            return twin.call(Twin.Kind.RECOVER, 0, 0, 0);
        }
        int which = numbers.below(100);
        if (which < 30) {
            int words = someWords();
            int pointers = numbers.below(4) == 0 ? words : numbers.below(Math.max(1, words) + 2);
            return twin.call(Twin.Kind.TAKE, words, pointers, 0);
        }
        if (which < 42) {
            return twin.call(Twin.Kind.GIVE, someAddress(), 0, 0);
        }
        if (which < 62) {
            return twin.call(Twin.Kind.STORE, someAddress(), numbers.below(6) - 1, someAddress());
        }
        if (which < 72) {
            return twin.call(Twin.Kind.SET_ROOT, numbers.below(9) - (which == 71 ? 1 : 0), someAddress(), 0);
        }
        return anyLook();
    }

    private boolean anyLook() {
        switch (numbers.below(10)) {
            case 0: return twin.call(Twin.Kind.LOAD, someAddress(), numbers.below(7) - 1, 0);
            case 1: return twin.call(Twin.Kind.SIZE, someAddress(), numbers.below(3) - 1, 0);
            case 2: return twin.call(Twin.Kind.ROOT, numbers.below(10) - 1, 0, 0);
            case 3: return twin.call(Twin.Kind.FREE_WORDS, 0, 0, 0);
            case 4: return twin.call(Twin.Kind.LARGEST_FREE, 0, 0, 0);
            case 5: return twin.call(Twin.Kind.EXTENT, numbers.below(40) - 1, 0, 0);
            case 6: return twin.call(Twin.Kind.REACHED, 0, 0, 0);
            case 7: return twin.call(Twin.Kind.RECOVER, 0, 0, 0);
            case 8: return twin.call(Twin.Kind.WRITES, 0, 0, 0);
            default: return twin.call(Twin.Kind.DOWN, 0, 0, 0);
        }
    }

    private int someMoment() {
        switch (numbers.below(12)) {
            case 0: return numbers.below(1200) - 100;
            case 1: return numbers.below(120);
            default: return numbers.below(20);
        }
    }

    private int someWords() {
        int most = sizes == 1 ? 4 : sizes == 2 ? 20 : 90;
        return numbers.below(25) == 0 ? numbers.below(258) - 1 : 1 + numbers.below(most);
    }

    /** Mostly the address of an extent; sometimes 0, or any number near the heap. */
    private int someAddress() {
        int which = numbers.below(12);
        if (which < 2) {
            return which == 0 ? 0 : numbers.below(262) - 3;
        }
        return twin.addressOf(numbers.below(sizes == 1 ? 40 : sizes == 2 ? 16 : 6));
    }
}
