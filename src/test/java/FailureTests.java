/** What the power's failing leaves, at each write of each call that writes; answers worked out by hand. */
final class FailureTests {
    private static final Class<IllegalStateException> DOWN = IllegalStateException.class;

    private FailureTests() {
    }

    public static void main(String[] args) {
        takeThatCuts();
        takeOfAll();
        giveOfOneThatIsReached();
        giveWithBothNeighbours();
        storeOfAPointer();
        storeOfANumber();
        setRootToAnother();
        failureInWhatIsPending();
        recoveryOfTwoRows();
        recoveryOfPendingAndRows();
        recoveryThatFailsManyTimes();
        recoveryOfNothing();
        recoveryKeepsWhatOldNumbersLeadTo();
        orderOutlastsCalls();
        Check.end("FailureTests");
    }

    /** Used and reached: 2 (4 words, to 12), 12 (1, to nothing), 15 (2, a number); free: 8 (2) and 19 (237). */
    private static RootedWords prepared() {
        RootedWords x = new RootedWords();
        x.take(4, 3);
        x.take(2, 0);
        x.take(1, 1);
        x.take(2, 0);
        x.give(8);
        x.setRoot(1, 2);
        x.setRoot(6, 15);
        x.store(2, 2, 12);
        x.store(15, 1, 12);
        return x;
    }

    private static final String PREPARED = "2/3[0,0,12,0] -8 12/1[0] 15/0[0,12] -19 "
            + "| 0 2 0 0 0 0 15 0 | free 239 most 237 reached 3";

    /**
     * Lets the power fail in place of each of a call's writes, and recovers. Once the note of k words is valid, behind
     * `before` writes and 2 * k + 1 more, the call counts as done.
     */
    private static void cutEverywhere(String name, Heaps.Call call, int before, int k, int sweepUndone, int sweepDone,
            String done) {
        int all = before + 3 * k + 2;
        for (int n = 0; n < all; n++) {
            RootedWords x = prepared();
            String at = name + " cut at " + n;
            int writes = x.writes();
            x.order(n);
            Check.refused(at, DOWN, () -> call.on(x));
            Check.yes(at + ": down", x.down());
            Check.same(at + ": writes", x.writes() - writes, n);
            boolean counts = n > before + 2 * k;
            writes = x.writes();
            Check.same(at + ": recover()", x.recover(), usedIn(counts ? done : PREPARED));
            Check.same(at + ": writes of recovery", x.writes() - writes,
                    counts ? k + 1 + 8 * sweepDone : 8 * sweepUndone);
            Check.no(at + ": up", x.down());
            Check.same(at, Picture.of(x), counts ? done : PREPARED);
        }
        RootedWords x = prepared();
        int writes = x.writes();
        x.order(all);
        call.on(x);
        Check.no(name + " is not cut by the write behind it", x.down());
        Check.same(name + " writes", x.writes() - writes, all);
    }

    private static int usedIn(String picture) {
        return picture.length() - picture.replace("[", "").length();
    }

    private static void takeThatCuts() {
        // No root leads to what is taken, so recovery frees it at once: a change of 2.
        cutEverywhere("take(3, 1)", x -> x.take(3, 1), 3, 4, 0, 1, PREPARED);
    }

    private static void takeOfAll() {
        cutEverywhere("take(2, 1)", x -> x.take(2, 1), 2, 2, 0, 1, PREPARED);
        cutEverywhere("take(1, 1), with a word more", x -> x.take(1, 1), 2, 2, 0, 1, PREPARED);
    }

    private static void giveOfOneThatIsReached() {
        // Extent 2 becomes one with 8, and then 12 is led to by none: recovery makes it one with them.
        cutEverywhere("give(2)", x -> x.give(2), 0, 2, 0, 1,
                "-2 15/0[0,12] -19 | 0 0 0 0 0 0 15 0 | free " + (11 + 237) + " most 237 reached 1");
    }

    private static void giveWithBothNeighbours() {
        RootedWords x = prepared();
        x.give(15);
        x.give(12);
        Check.same("both given", Picture.of(x), "2/3[0,0,12,0] -8 | 0 2 0 0 0 0 0 0 | free 248 most 248 reached 1");
        cutEverywhere("give(12)", y -> y.give(12), 0, 2, 0, 0,
                "2/3[0,0,12,0] -8 15/0[0,12] -19 | 0 2 0 0 0 0 15 0 | free 242 most 237 reached 2");
    }

    private static void storeOfAPointer() {
        cutEverywhere("store(2, 0, 15)", x -> x.store(2, 0, 15), 0, 1, 0, 0,
                PREPARED.replace("[0,0,12,0]", "[15,0,12,0]"));
        cutEverywhere("store(2, 2, 0)", x -> x.store(2, 2, 0), 0, 1, 0, 1,
                "2/3[0,0,0,0] -8 15/0[0,12] -19 | 0 2 0 0 0 0 15 0 | free 242 most 237 reached 2");
    }

    private static void storeOfANumber() {
        cutEverywhere("store(2, 3, -5)", x -> x.store(2, 3, -5), 0, 1, 0, 0,
                PREPARED.replace("[0,0,12,0]", "[0,0,12,-5]"));
        cutEverywhere("store(15, 1, 12), the same again", x -> x.store(15, 1, 12), 0, 1, 0, 0, PREPARED);
    }

    private static void setRootToAnother() {
        cutEverywhere("setRoot(0, 12)", x -> x.setRoot(0, 12), 0, 1, 0, 0,
                PREPARED.replace("| 0 2", "| 12 2"));
        cutEverywhere("setRoot(1, 12)", x -> x.setRoot(1, 12), 0, 1, 0, 1,
                "-2 12/1[0] 15/0[0,12] -19 | 0 12 0 0 0 0 15 0 | free " + (8 + 237) + " most 237 reached 2");
        cutEverywhere("setRoot(6, 0)", x -> x.setRoot(6, 0), 0, 1, 0, 1,
                "2/3[0,0,12,0] -8 12/1[0] -15 | 0 2 0 0 0 0 0 0 | free " + (2 + 241) + " most 241 reached 2");
    }

    private static void failureInWhatIsPending() {
        for (int k = 1; k <= 4; k += k) {
            for (int n = 0; n <= k; n++) {
                RootedWords x = prepared();
                if (k == 1) {
                    x.order(3);
                    Check.refused("store", DOWN, () -> x.store(2, 1, 15));
                } else if (k == 2) {
                    x.order(7);
                    Check.refused("give", DOWN, () -> x.give(15));
                } else {
                    x.order(3 + 9);
                    Check.refused("take", DOWN, () -> x.take(3, 0));
                }
                String at = "a pending change of " + k + ", cut again at " + n;
                int writes = x.writes();
                x.order(n);
                Check.refused(at, DOWN, () -> x.recover());
                Check.same(at + ": writes", x.writes() - writes, n);
                Check.yes(at + ": down", x.down());
                Check.refused(at + ": root", DOWN, () -> x.root(0));
                writes = x.writes();
                Check.same(at + ": recover()", x.recover(), k == 2 ? 2 : 3);
                Check.same(at + ": all of it again", x.writes() - writes, k + 1 + (k == 4 ? 8 : 0));
                Check.same(at + ": what stands", Picture.of(x), k == 1 ? PREPARED.replace("[0,0,", "[0,15,")
                        : k == 2 ? "2/3[0,0,12,0] -8 12/1[0] -15 | 0 2 0 0 0 0 0 0 | free 243 most 241 reached 2"
                        : PREPARED);
            }
        }
    }

    /** Reached: 14. Unreached or free before it: 2, 6, 10 (free); behind it: 18 (free), 22, 26 (free). */
    private static RootedWords withTwoRows() {
        RootedWords x = new RootedWords();
        for (int i = 0; i < 6; i++) {
            x.take(2, 2);
        }
        x.give(10);
        x.give(18);
        x.setRoot(0, 14);
        x.store(22, 0, 14);
        x.store(2, 1, 6);
        x.store(6, 0, 2);
        x.order(0);
        Check.refused("give", DOWN, () -> x.give(14));
        return x;
    }

    private static final String SWEPT = "-2 14/2[0,0] -18 | 14 0 0 0 0 0 0 0 | free 248 most 238 reached 1";

    private static void recoveryOfTwoRows() {
        int[] writesOfSecond = {16, 16, 16, 16, 16, 11, 11, 11, 8, 8, 8, 8, 8, 3, 3, 3};
        for (int n = 0; n < 16; n++) {
            RootedWords x = withTwoRows();
            int writes = x.writes();
            String at = "two rows, cut at " + n;
            x.order(n);
            Check.refused(at, DOWN, () -> x.recover());
            Check.yes(at + ": down still", x.down());
            Check.same(at + ": writes", x.writes() - writes, n);
            writes = x.writes();
            Check.same(at + ": recover()", x.recover(), 1);
            Check.same(at + ": writes of the second recovery", x.writes() - writes, writesOfSecond[n]);
            Check.same(at + ": what stands", Picture.of(x), SWEPT);
        }
        RootedWords x = withTwoRows();
        int writes = x.writes();
        x.order(16);
        Check.same("recover()", x.recover(), 1);
        Check.same("16 writes", x.writes() - writes, 16);
        Check.same("swept", Picture.of(x), SWEPT);
        Check.refused("what was ordered stands", DOWN, () -> x.setRoot(0, 0));
    }

    private static void recoveryOfPendingAndRows() {
        int[] writesOfSecond = {10, 10, 8, 8, 8, 8, 8, 3, 3, 3};
        for (int n = 0; n < 10; n++) {
            RootedWords x = new RootedWords();
            x.take(2, 1);
            x.take(3, 0);
            x.setRoot(0, 2);
            x.setRoot(1, 6);
            x.order(4);
            Check.refused("setRoot", DOWN, () -> x.setRoot(0, 6));
            int writes = x.writes();
            String at = "a pending change and a row, cut at " + n;
            x.order(n);
            Check.refused(at, DOWN, () -> x.recover());
            Check.same(at + ": writes", x.writes() - writes, n);
            writes = x.writes();
            Check.same(at + ": recover()", x.recover(), 1);
            Check.same(at + ": writes of the second recovery", x.writes() - writes, writesOfSecond[n]);
            Check.same(at + ": what stands", Picture.of(x),
                    "-2 6/0[0,0,0] -11 | 6 6 0 0 0 0 0 0 | free 247 most 245 reached 1");
        }
    }

    private static void recoveryThatFailsManyTimes() {
        RootedWords x = withTwoRows();
        int writes = x.writes();
        int[] moments = {0, 4, 0, 6, 0, 1, 2, 8, 2, 0};
        for (int n : moments) {
            x.order(n);
            Check.refused("recovery cut at " + n, DOWN, () -> x.recover());
        }
        Check.same("writes until then", x.writes() - writes, 23);
        Check.same("the last note is pending still", x.recover(), 1);
        Check.same("it is finished", x.writes() - writes, 23 + 3);
        Check.same("swept", Picture.of(x), SWEPT);
    }

    private static void recoveryOfNothing() {
        RootedWords x = new RootedWords();
        x.order(2);
        Check.refused("take", DOWN, () -> x.take(5, 0));
        int writes = x.writes();
        Check.same("no extent is used", x.recover(), 0);
        Check.same("one free extent already: no writes", x.writes() - writes, 0);
        x.take(254, 1);
        x.order(0);
        Check.refused("give", DOWN, () -> x.give(2));
        writes = x.writes();
        Check.same("the whole heap is unreached", x.recover(), 0);
        Check.same("one row", x.writes() - writes, 8);
        Check.same("all is free", Picture.of(x), "-2 | 0 0 0 0 0 0 0 0 | free 254 most 254 reached 0");
        x.take(254, 1);
        x.setRoot(3, 2);
        x.order(0);
        Check.refused("give", DOWN, () -> x.give(2));
        writes = x.writes();
        Check.same("the whole heap is reached", x.recover(), 1);
        Check.same("no row", x.writes() - writes, 0);
    }

    private static void recoveryKeepsWhatOldNumbersLeadTo() {
        RootedWords x = new RootedWords();
        x.take(3, 0);
        x.setRoot(4, 2);
        x.give(2);
        x.order(3 + 9);
        Check.refused("take", DOWN, () -> x.take(3, 3));
        Check.same("the old root leads to what was taken", x.recover(), 1);
        Check.same("what stands", Picture.of(x), "2/3[0,0,0] -7 | 0 0 0 0 2 0 0 0 | free 249 most 249 reached 1");
        x.store(2, 0, 2);
        x.order(7);
        Check.refused("give", DOWN, () -> x.give(2));
        Check.same("it is given back", x.recover(), 0);
        Check.same("the root tells of nothing", x.root(4), 0);
        Check.same("taken again, all is 0", x.take(3, 3) + x.load(2, 0), 2);
        Check.same("the old root tells of it again", x.root(4), 2);
    }

    private static void orderOutlastsCalls() {
        RootedWords x = prepared();
        x.order(12);
        x.setRoot(0, 2);
        x.load(2, 0);
        x.store(2, 3, 9);
        int writes = x.writes();
        Check.refused("the third write of the third call", DOWN, () -> x.setRoot(0, 0));
        Check.same("two took place", x.writes() - writes, 2);
        x.recover();
        Check.same("the first and the second are done", x.root(0) + x.load(2, 3), 2 + 9);
        for (int i = 0; i < 20; i++) {
            x.store(2, 3, i);
        }
        Check.no("it fails once", x.down());
    }
}
