import java.util.NoSuchElementException;

/** For each sentence of the document's Terms that names a boundary case a test, with the promises it bears on. */
final class TermsTests {
    private static final Class<IllegalStateException> DOWN = IllegalStateException.class;
    private static final Class<NoSuchElementException> NO_ADDRESS = NoSuchElementException.class;
    private static final Class<IndexOutOfBoundsException> NO_INDEX = IndexOutOfBoundsException.class;
    private static final Class<IllegalArgumentException> WRONG = IllegalArgumentException.class;
    private static final Class<UnsupportedOperationException> NO_ROOM = UnsupportedOperationException.class;

    private TermsTests() {
    }

    public static void main(String[] args) {
        theHeap();
        changesAndThePower();
        recovery();
        exceptions();
        Check.end("TermsTests");
    }

    private static void theHeap() {
        Check.sentence("Promises 1 to 16", "An object is used for at most 512 calls after it has been made",
                TermsTests::lastCall);
        Check.sentence("Promises 2, 9 and 11", "THE HEAP is a row of 256 words with the ADDRESSES 1 .. 256.",
                TermsTests::endsOfTheHeap);
        Check.sentence("Promises 2 and 11", "It consists of EXTENTS, one behind the other, each USED or FREE, of "
                + "3 words or more", TermsTests::smallestExtents);
        Check.sentence("Promises 2 and 6", "its first and last words are its own, the others are its CONTENT",
                TermsTests::ownWords);
        Check.sentence("Promises 3 and 11", "No two free extents stand next to each other.",
                TermsTests::noFreeNeighbours);
        Check.sentence("Promises 3 and 14", "No two free extents stand next to each other.",
                TermsTests::noFreeNeighboursAfterRecovery);
        Check.sentence("Promises 2 and 6", "A used extent has a number of POINTERS, from 0 to how many words its "
                + "content has.", TermsTests::noneOrAllArePointers);
        Check.sentence("Promise 1", "At first the whole heap is one free extent (with a content of 254 words).",
                TermsTests::oneFreeExtentAtFirst);
        Check.sentence("Promises 1, 7 and 8", "There are 8 ROOTS, 0 .. 7, each 0 or an address, 0 at first.",
                TermsTests::eightRoots);
        Check.sentence("Promises 3 to 7", "A USED ADDRESS is the address of a used extent.",
                TermsTests::usedAddresses);
    }

    private static void lastCall() {
        RootedWords x = new RootedWords();
        x.take(2, 1);
        for (int call = 2; call <= 509; call++) {
            Check.same("call " + call, x.store(2, 1, call), call == 2 ? 0 : call - 1);
        }
        Check.same("call 510", x.writes(), 16 + 508 * 5);
        Check.same("call 511", x.setRoot(7, 2), 0);
        Check.same("call 512", x.take(1, 0), 6);
    }

    private static void endsOfTheHeap() {
        RootedWords x = Heaps.of(251);
        Check.same("the last extent", x.take(1, 1), 255);
        Check.same("its word", x.load(255, 0), 0);
        Check.same("extents", Heaps.extents(x), "2 255");
        for (int address : new int[] {0, 1, 256, 257}) {
            Check.refused("load(" + address + ", 0)", NO_ADDRESS, () -> x.load(address, 0));
        }
        Check.refused("nothing stands behind", NO_ROOM, () -> x.take(1, 0));
        Check.same("256 words less those of two extents and two own ones", Heaps.of(10, 20).freeWords(),
                256 - 12 - 22 - 2);
    }

    private static void smallestExtents() {
        RootedWords x = Heaps.full();
        for (int i = 0; i < 85; i++) {
            Check.same("extent(" + i + ")", x.extent(i), 2 + 3 * i);
            Check.same("its words", x.size(2 + 3 * i, 0), i < 84 ? 1 : 2);
        }
        Check.refused("extent(85)", NO_INDEX, () -> x.extent(85));
        RootedWords y = Heaps.of(5);
        y.give(2);
        y.take(249, 0);
        Check.same("a free extent of 5 words", y.largestFree(), 3);
        Check.same("leaves 2 words, too few for an extent", y.take(1, 0), 253);
        Check.same("so they are content", y.size(253, 0), 3);
    }

    private static void ownWords() {
        RootedWords x = Heaps.of(1, 2, 3);
        Check.same("two words between contents", Heaps.extents(x), "2 5 9 -14");
        x.store(2, 0, 2);
        x.store(5, 0, 5);
        x.store(5, 1, 9);
        x.store(9, 0, 2);
        x.store(9, 2, 9);
        Check.same("full contents leave the own words alone", Picture.of(x),
                "2/1[2] 5/2[5,9] 9/3[2,0,9] -14 | 0 0 0 0 0 0 0 0 | free 242 most 242 reached 0");
    }

    private static void noFreeNeighbours() {
        int[][] orders = {{8, 14, 20}, {8, 20, 14}, {14, 8, 20}, {14, 20, 8}, {20, 8, 14}, {20, 14, 8}};
        String[] afterTwo = {"2 -8 20 26 -32", "2 -8 14 -20 26 -32", "2 -8 20 26 -32", "2 8 -14 26 -32",
            "2 -8 14 -20 26 -32", "2 8 -14 26 -32"};
        for (int i = 0; i < orders.length; i++) {
            RootedWords x = Heaps.of(4, 4, 4, 4, 4);
            x.give(orders[i][0]);
            x.give(orders[i][1]);
            Check.same("after two, order " + i, Heaps.extents(x), afterTwo[i]);
            x.give(orders[i][2]);
            Check.same("after three, order " + i, Heaps.extents(x), "2 -8 26 -32");
        }
    }

    private static void noFreeNeighboursAfterRecovery() {
        RootedWords x = Heaps.of(4, 4, 4, 4, 4);
        x.give(14);
        x.setRoot(0, 26);
        Check.same("one is reached", Heaps.offAndRecovered(x), 1);
        Check.same("extents", Heaps.extents(x), "-2 26 -32");
    }

    private static void noneOrAllArePointers() {
        RootedWords x = new RootedWords();
        x.take(3, 0);
        x.take(3, 3);
        Check.same("none", x.size(2, 1), 0);
        Check.same("all", x.size(7, 1), 3);
        Check.same("the first word is no pointer", x.store(2, 0, 1), 0);
        Check.refused("the last word is a pointer", WRONG, () -> x.store(7, 2, 1));
    }

    private static void oneFreeExtentAtFirst() {
        RootedWords x = new RootedWords();
        Check.same("extents", Heaps.extents(x), "-2");
        Check.same("freeWords", x.freeWords(), 254);
        Check.same("largestFree", x.largestFree(), 254);
        Check.same("take(254, 254)", x.take(254, 254), 2);
    }

    private static void eightRoots() {
        RootedWords x = Heaps.of(1, 1, 1, 1, 1, 1, 1, 1);
        for (int r = 0; r < 8; r++) {
            Check.same("at first, root(" + r + ")", x.root(r), 0);
        }
        for (int r = 0; r < 8; r++) {
            Check.same("setRoot " + r, x.setRoot(r, 2 + 3 * r), 0);
        }
        for (int r = 0; r < 8; r++) {
            Check.same("root(" + r + ")", x.root(r), 2 + 3 * r);
        }
        for (int r : new int[] {-1, 8}) {
            Check.refused("root(" + r + ")", NO_INDEX, () -> x.root(r));
            Check.refused("setRoot(" + r + ", 2)", NO_INDEX, () -> x.setRoot(r, 2));
        }
    }

    private static void usedAddresses() {
        RootedWords x = Heaps.withGaps();
        for (int address = -3; address <= 260; address++) {
            int at = address;
            boolean used = address == 2 || address == 14 || address == 23;
            Check.same("load(" + address + ", 0)", Check.told(() -> x.load(at, 0)),
                    used ? "0" : "NoSuchElementException");
        }
        for (int address : Heaps.FAR) {
            Check.refused("load(" + address + ", 0)", NO_ADDRESS, () -> x.load(address, 0));
        }
    }

    /** A call that the power may cut off: so many writes before a change of k words, and what can be seen behind it. */
    private static final class Cut {
        final String name;
        final Heaps.Call call;
        final int before;
        final int k;
        final String done;

        Cut(String name, Heaps.Call call, int before, int k, String done) {
            this.name = name;
            this.call = call;
            this.before = before;
            this.k = k;
            this.done = done;
        }

        int writes() {
            return before + 3 * k + 2;
        }

        int writesUntilValid() {
            return before + 2 * k + 1;
        }
    }

    /** Used and reached: 2 and 6 (2 words, all pointers); root 2 tells of 10, which was given back. */
    private static RootedWords base() {
        RootedWords x = Heaps.of(2, 2, 2);
        x.setRoot(0, 2);
        x.setRoot(1, 6);
        x.setRoot(2, 10);
        x.give(10);
        return x;
    }

    private static final String BASE = "2/2[0,0] 6/2[0,0] -10 | 2 6 0 0 0 0 0 0 | free 246 most 246 reached 2";

    /** Everything here stays reached, so that recovery makes no writes but those of what is pending. */
    private static final Cut[] CUTS = {
        new Cut("store(2, 1, 6)", x -> x.store(2, 1, 6), 0, 1, BASE.replace("2/2[0,0]", "2/2[0,6]")),
        new Cut("setRoot(7, 6)", x -> x.setRoot(7, 6), 0, 1, BASE.replace("0 0 |", "0 6 |")),
        new Cut("give(6)", x -> x.give(6), 0, 2, "2/2[0,0] -6 | 2 0 0 0 0 0 0 0 | free 250 most 250 reached 1"),
        new Cut("take(3, 1)", x -> x.take(3, 1), 3, 4,
                "2/2[0,0] 6/2[0,0] 10/1[0,0,0] -15 | 2 6 10 0 0 0 0 0 | free 241 most 241 reached 3"),
        new Cut("take(245, 1)", x -> x.take(245, 1), 246, 2, "2/2[0,0] 6/2[0,0] 10/1[" + "0,".repeat(245) + "0] "
                + "| 2 6 10 0 0 0 0 0 | free 0 most 0 reached 3"),
    };

    private static void changesAndThePower() {
        Check.sentence("Promises 2, 3, 4, 7 and 15", "TO CHANGE k words takes 3 * k + 2 writes",
                TermsTests::writesOfChanges);
        Check.sentence("Promises 2, 3, 4, 7 and 13", "that write does not take place, nor does anything behind it in "
                + "that call, which throws IllegalStateException", TermsTests::failingWrite);
        Check.sentence("Promises 13 and 14", "no failure is ordered any more, and the heap is DOWN",
                TermsTests::failsOnce);
        Check.sentence("Promises 2, 3, 4, 7 and 14", "If the note of a change is valid then, it is PENDING (nothing "
                + "is pending otherwise): what the call was to do counts as done", TermsTests::validNoteCounts);
        Check.sentence("Promises 2, 3, 4, 7 and 14", "1 that ends it", TermsTests::pendingUntilItIsEnded);
        Check.sentence("Promises 2, 3, 4, 7 and 14", "otherwise the call has done nothing",
                TermsTests::otherNotesDoNot);
    }

    private static void writesOfChanges() {
        for (Cut cut : CUTS) {
            RootedWords x = base();
            int before = x.writes();
            x.order(cut.writes());
            cut.call.on(x);
            Check.same(cut.name, x.writes() - before, cut.writes());
            Check.no(cut.name + " makes no write more", x.down());
            Check.same(cut.name, Picture.of(x), cut.done);
        }
    }

    /** The heap, down, when a call was cut off behind n writes. */
    private static RootedWords behind(int n, Cut cut) {
        RootedWords x = base();
        int before = x.writes();
        x.order(n);
        Check.refused(cut.name + " cut at " + n, DOWN, () -> cut.call.on(x));
        Check.same(cut.name + " cut at " + n + ": writes", x.writes() - before, n);
        return x;
    }

    private static void failingWrite() {
        for (Cut cut : CUTS) {
            behind(0, cut);
            behind(1, cut);
            behind(cut.writesUntilValid() - 1, cut);
            behind(cut.writesUntilValid(), cut);
            behind(cut.writes() - 2, cut);
            behind(cut.writes() - 1, cut);
        }
    }

    private static void failsOnce() {
        for (Cut cut : CUTS) {
            RootedWords x = behind(cut.writesUntilValid(), cut);
            Check.yes(cut.name + ": down", x.down());
            Check.same(cut.name + ": no failure in recovery", x.recover(), cut.done.split("\\[").length - 1);
            for (int i = 0; i < 50; i++) {
                x.setRoot(7, 2);
            }
            Check.no(cut.name + ": nor behind it", x.down());
        }
    }

    /** Recovers a heap that a call left behind n writes, and looks at it. */
    private static void looksAs(String due, int writes, int n, Cut cut) {
        RootedWords x = behind(n, cut);
        int before = x.writes();
        x.recover();
        Check.same(cut.name + " cut at " + n + ": writes of recovery", x.writes() - before, writes);
        Check.same(cut.name + " cut at " + n, Picture.of(x), due);
    }

    private static void validNoteCounts() {
        for (Cut cut : CUTS) {
            looksAs(cut.done, cut.k + 1, cut.writesUntilValid(), cut);
        }
    }

    private static void pendingUntilItIsEnded() {
        for (Cut cut : CUTS) {
            looksAs(cut.done, cut.k + 1, cut.writes() - 1, cut);
        }
    }

    private static void otherNotesDoNot() {
        for (Cut cut : CUTS) {
            looksAs(BASE, 0, cut.writesUntilValid() - 1, cut);
            looksAs(BASE, 0, cut.before, cut);
            looksAs(BASE, 0, 0, cut);
        }
    }

    private static void recovery() {
        Check.sentence("Promise 14", "if a change of k words is pending, it is finished: k + 1 writes (if the power "
                + "fails in them, it is still pending)", TermsTests::pendingCutAgain);
        Check.sentence("Promises 12 and 14", "a used extent is REACHED when a root is its address",
                TermsTests::reachedByARoot);
        Check.sentence("Promises 12 and 14", "or one of the first words of the content of one that is reached, as "
                + "many as that has pointers, is its address", TermsTests::reachedByPointers);
        Check.sentence("Promises 12 and 14", "of one that is reached", TermsTests::reachedThroughAll);
        Check.sentence("Promises 12 and 14", "(other numbers there lead nowhere)", TermsTests::otherNumbers);
        Check.sentence("Promise 14", "Each longest row of neighbouring extents that are free or not reached",
                TermsTests::longestRows);
        Check.sentence("Promise 14", "becomes one free extent, by a change of 2 words", TermsTests::rowOfOneUsed);
        Check.sentence("Promise 14", "becomes one free extent", TermsTests::rowsAtTheEnds);
        Check.sentence("Promise 14", "unless it is one free extent already", TermsTests::rowsThatAreFree);
        Check.sentence("Promises 14 and 16", "Then the heap is up.", TermsTests::upAgain);
        Check.sentence("Promise 14", "(If the power fails on the way, rows that came before, and the one whose note "
                + "is valid, are free extents; the others are as they were.)", TermsTests::recoveryCutOff);
    }

    private static void pendingCutAgain() {
        for (Cut cut : CUTS) {
            for (int n = 0; n <= cut.k; n++) {
                RootedWords x = behind(cut.writesUntilValid(), cut);
                String at = cut.name + ", pending, cut at " + n;
                int before = x.writes();
                x.order(n);
                Check.refused(at, DOWN, () -> x.recover());
                Check.same(at + ": writes", x.writes() - before, n);
                x.recover();
                Check.same(at + ": writes of the second recovery", x.writes() - before, n + cut.k + 1);
                Check.same(at, Picture.of(x), cut.done);
            }
            RootedWords x = behind(cut.writesUntilValid(), cut);
            x.order(cut.k + 1);
            x.recover();
            Check.no(cut.name + ": the write behind them is none of recovery's", x.down());
        }
    }

    private static void reachedByARoot() {
        for (int r = 0; r < 8; r++) {
            RootedWords x = Heaps.of(1, 1, 1);
            Check.same("none before", x.reached(), 0);
            x.setRoot(r, 5);
            Check.same("reached by root " + r, x.reached(), 1);
            Check.same("kept by root " + r, Heaps.offAndRecovered(x), 1);
            Check.same("extents with root " + r, Heaps.extents(x), "-2 5 -8");
        }
    }

    private static void reachedByPointers() {
        RootedWords x = new RootedWords();
        x.take(4, 2);
        for (int i = 0; i < 4; i++) {
            x.take(1, 1);
            x.store(2, i, 8 + 3 * i);
        }
        x.setRoot(1, 2);
        Check.same("by the first and by the last pointer, not by the words behind", x.reached(), 3);
        Check.same("kept", Heaps.offAndRecovered(x), 3);
        Check.same("extents", Heaps.extents(x), "2 8 11 -14");

        RootedWords y = new RootedWords();
        y.take(3, 0);
        y.take(1, 0);
        y.give(2);
        y.take(1, 1);
        y.store(2, 1, 7);
        y.store(2, 2, 7);
        y.setRoot(1, 2);
        Check.same("words more than asked for are no pointers", y.reached(), 1);
        y.store(2, 0, 7);
        Check.same("the word asked for is", y.reached(), 2);
    }

    private static void reachedThroughAll() {
        RootedWords x = Heaps.full();
        for (int i = 0; i < 84; i++) {
            x.store(254 - 3 * i, 0, 251 - 3 * i);
        }
        Check.same("one that is not reached leads nowhere", x.reached(), 0);
        x.store(2, 0, 254);
        x.setRoot(7, 128);
        Check.same("85, each by the one before, round to the first", x.reached(), 85);
        Check.same("all are kept", Heaps.offAndRecovered(x), 85);
        x.store(131, 0, 131);
        Check.same("one that leads to itself", x.reached(), 85);
        x.setRoot(7, 131);
        Check.same("leads to no other", Heaps.offAndRecovered(x), 1);
        Check.same("extents", Heaps.extents(x), "-2 131 -134");
    }

    private static void otherNumbers() {
        RootedWords x = Heaps.of(2, 2, 2, 2);
        x.store(2, 0, 6);
        x.store(2, 1, 10);
        x.setRoot(1, 2);
        x.setRoot(2, 14);
        Check.same("all four", x.reached(), 4);
        x.give(14);
        Check.same("a root at a free extent", x.reached(), 3);
        x.give(6);
        Check.same("a pointer at a free extent", x.reached(), 2);
        x.give(10);
        Check.same("a pointer at a word of a free extent", x.reached(), 1);
        x.take(8, 0);
        Check.same("a pointer at a used extent, one at a word of its content", x.reached(), 2);
        x.give(6);
        x.take(5, 0);
        x.take(1, 0);
        Check.same("a root at the last word of an extent", x.reached(), 2);
        Check.same("kept", Heaps.offAndRecovered(x), 2);
        Check.same("extents", Heaps.extents(x), "2 6 -13");
    }

    private static void longestRows() {
        RootedWords x = Heaps.of(1, 1, 1, 1, 1, 1, 1, 1);
        x.setRoot(1, 8);
        x.setRoot(2, 20);
        x.give(5);
        x.give(14);
        Heaps.powerOff(x);
        int before = x.writes();
        Check.same("two are kept", x.recover(), 2);
        Check.same("used and free; used, free and used; used and free", Heaps.extents(x), "-2 8 -11 20 -23");
        Check.same("a change of 2 for each of three rows", x.writes() - before, 3 * 8);
    }

    private static void rowOfOneUsed() {
        RootedWords x = Heaps.of(1, 2, 1);
        x.setRoot(1, 2);
        x.setRoot(2, 9);
        Heaps.powerOff(x);
        int before = x.writes();
        Check.same("two are kept", x.recover(), 2);
        Check.same("extents", Heaps.extents(x), "2 -5 9 -12");
        Check.same("a change of 2", x.writes() - before, 8);
    }

    private static void rowsAtTheEnds() {
        RootedWords x = Heaps.full();
        for (int i = 1; i < 83; i++) {
            x.store(2 + 3 * i, 0, 5 + 3 * i);
        }
        x.setRoot(1, 5);
        Heaps.powerOff(x);
        int before = x.writes();
        Check.same("all but the first and the last", x.recover(), 83);
        Check.same("the first", x.extent(0), -2);
        Check.same("the last", x.extent(84), -254);
        Check.same("free words", x.freeWords(), 1 + 2);
        Check.same("two rows", x.writes() - before, 16);

        for (RootedWords y : new RootedWords[] {Heaps.full(), Heaps.of(254), Heaps.of(3)}) {
            Heaps.powerOff(y);
            int writes = y.writes();
            Check.same("none is kept", y.recover(), 0);
            Check.same("the whole heap", Heaps.extents(y), "-2");
            Check.same("its words", y.freeWords(), 254);
            Check.same("one row", y.writes() - writes, 8);
        }
    }

    private static void rowsThatAreFree() {
        RootedWords x = Heaps.withGaps();
        x.setRoot(1, 2);
        x.setRoot(2, 14);
        x.setRoot(3, 23);
        Heaps.powerOff(x);
        int before = x.writes();
        Check.same("all are kept", x.recover(), 3);
        Check.same("no writes", x.writes() - before, 0);
        Check.same("extents", Heaps.extents(x), "2 -7 14 -17 23 -27");

        RootedWords y = new RootedWords();
        Heaps.powerOff(y);
        Check.same("nothing is used", y.recover(), 0);
        Check.same("no writes", y.writes(), 0);
        Check.same("extents", Heaps.extents(y), "-2");
    }

    private static void upAgain() {
        RootedWords x = Heaps.of(1, 1);
        x.setRoot(1, 5);
        Heaps.powerOff(x);
        x.order(4);
        Check.refused("recovery cut off", DOWN, () -> x.recover());
        Check.yes("down still", x.down());
        Check.same("recovery to its end", x.recover(), 1);
        Check.no("down", x.down());
        Check.same("calls answer", x.take(1, 0), 2);
    }

    private static void recoveryCutOff() {
        int[] secondWrites = {16, 16, 16, 16, 16, 11, 11, 11, 8, 8, 8, 8, 8, 3, 3, 3};
        for (int n = 0; n < 16; n++) {
            RootedWords x = Heaps.of(1, 1, 1, 1);
            x.setRoot(1, 5);
            Heaps.powerOff(x);
            int before = x.writes();
            x.order(n);
            Check.refused("two rows, cut at " + n, DOWN, () -> x.recover());
            Check.same("cut at " + n + ": writes", x.writes() - before, n);
            Check.same("cut at " + n + ": second recovery", x.recover(), 1);
            Check.same("cut at " + n + ": its writes", x.writes() - before - n, secondWrites[n]);
            Check.same("cut at " + n, Heaps.extents(x), "-2 5 -8");
        }
    }

    private static void exceptions() {
        Check.sentence("Promises 2 to 12", "When the heap is down, calls that name IllegalStateException (but "
                + "recover()) throw it, before all else", TermsTests::downBeforeAllElse);
        Check.sentence("Promises 13 to 16", "calls that name IllegalStateException (but recover())",
                TermsTests::downAnswers);
        Check.sentence("Promises 2, 4, 5 and 7", "when several exceptions would do, the one named first is thrown",
                TermsTests::firstNamedFirst);
        Check.sentence("Promises 2 to 8 and 11", "A call that throws changes nothing", TermsTests::changesNothing);
        Check.sentence("Promises 2 to 12", "A call that throws changes nothing", TermsTests::changesNothingWhenDown);
    }

    private static void downBeforeAllElse() {
        RootedWords x = Heaps.withGaps();
        Heaps.powerOff(x);
        Check.refused("take(0, 0)", DOWN, () -> x.take(0, 0));
        Check.refused("take(5, 6)", DOWN, () -> x.take(5, 6));
        Check.refused("take(230, 0)", DOWN, () -> x.take(230, 0));
        Check.refused("take(1, 0)", DOWN, () -> x.take(1, 0));
        Check.refused("give(7)", DOWN, () -> x.give(7));
        Check.refused("give(2)", DOWN, () -> x.give(2));
        Check.refused("store(7, 9, 7)", DOWN, () -> x.store(7, 9, 7));
        Check.refused("store(2, 3, 0)", DOWN, () -> x.store(2, 3, 0));
        Check.refused("store(2, 0, 7)", DOWN, () -> x.store(2, 0, 7));
        Check.refused("store(2, 0, 2)", DOWN, () -> x.store(2, 0, 2));
        Check.refused("load(7, 9)", DOWN, () -> x.load(7, 9));
        Check.refused("load(2, 3)", DOWN, () -> x.load(2, 3));
        Check.refused("load(2, 0)", DOWN, () -> x.load(2, 0));
        Check.refused("size(7, 0)", DOWN, () -> x.size(7, 0));
        Check.refused("size(2, 1)", DOWN, () -> x.size(2, 1));
        Check.refused("setRoot(8, 7)", DOWN, () -> x.setRoot(8, 7));
        Check.refused("setRoot(0, 7)", DOWN, () -> x.setRoot(0, 7));
        Check.refused("setRoot(0, 2)", DOWN, () -> x.setRoot(0, 2));
        Check.refused("root(8)", DOWN, () -> x.root(8));
        Check.refused("root(0)", DOWN, () -> x.root(0));
        Check.refused("freeWords()", DOWN, () -> x.freeWords());
        Check.refused("largestFree()", DOWN, () -> x.largestFree());
        Check.refused("extent(6)", DOWN, () -> x.extent(6));
        Check.refused("extent(0)", DOWN, () -> x.extent(0));
        Check.refused("reached()", DOWN, () -> x.reached());
    }

    private static void downAnswers() {
        RootedWords x = Heaps.of(4, 4);
        Heaps.powerOff(x);
        Check.same("writes()", x.writes(), 36);
        Check.yes("down()", x.down());
        Check.yes("order(1000)", x.order(1000));
        Check.no("order(1001)", x.order(1001));
        Check.same("recover()", x.recover(), 0);
    }

    private static void firstNamedFirst() {
        RootedWords x = Heaps.withGaps();
        Check.refused("take: wrong words, and wrong pointers", WRONG, () -> x.take(255, 256));
        Check.refused("take: wrong pointers, and no room", WRONG, () -> x.take(230, 231));
        Check.refused("store: address and pointer", NO_ADDRESS, () -> x.store(7, 0, 7));
        for (int i : new int[] {-1, 3, 9, 254, 255, 256, Integer.MIN_VALUE, Integer.MAX_VALUE}) {
            Check.refused("store: address, word " + i + " and pointer", NO_ADDRESS, () -> x.store(7, i, 7));
            Check.refused("store: address and word " + i, NO_ADDRESS, () -> x.store(7, i, 0));
            Check.refused("store: far address and word " + i, NO_ADDRESS, () -> x.store(-1, i, 0));
            Check.refused("load: address and word " + i, NO_ADDRESS, () -> x.load(7, i));
            Check.refused("load: far address and word " + i, NO_ADDRESS, () -> x.load(257, i));
            Check.refused("store: word " + i + " and pointer", NO_INDEX, () -> x.store(2, i, 7));
        }
        for (int r : new int[] {-1, 8, 300, Integer.MIN_VALUE, Integer.MAX_VALUE}) {
            Check.refused("setRoot: root " + r + " and address", NO_INDEX, () -> x.setRoot(r, 7));
            Check.refused("setRoot: root " + r + " and far address", NO_INDEX, () -> x.setRoot(r, -1));
        }
    }

    private static void callWrongly(RootedWords x) {
        Check.refused("take(0, 0)", WRONG, () -> x.take(0, 0));
        Check.refused("take(5, 6)", WRONG, () -> x.take(5, 6));
        Check.refused("take(230, 0)", NO_ROOM, () -> x.take(230, 0));
        Check.refused("give(7)", NO_ADDRESS, () -> x.give(7));
        Check.refused("store(7, 0, 0)", NO_ADDRESS, () -> x.store(7, 0, 0));
        Check.refused("store(2, 3, 0)", NO_INDEX, () -> x.store(2, 3, 0));
        Check.refused("store(2, 1, 7)", WRONG, () -> x.store(2, 1, 7));
        Check.refused("load(2, 3)", NO_INDEX, () -> x.load(2, 3));
        Check.refused("size(7, 0)", NO_ADDRESS, () -> x.size(7, 0));
        Check.refused("setRoot(8, 2)", NO_INDEX, () -> x.setRoot(8, 2));
        Check.refused("setRoot(1, 7)", NO_ADDRESS, () -> x.setRoot(1, 7));
        Check.refused("root(8)", NO_INDEX, () -> x.root(8));
        Check.refused("extent(6)", NO_INDEX, () -> x.extent(6));
    }

    private static void changesNothing() {
        RootedWords x = Heaps.withGaps();
        x.setRoot(1, 14);
        x.store(2, 1, 23);
        int writes = x.writes();
        x.order(0);
        callWrongly(x);
        Check.same("writes", x.writes(), writes);
        Check.no("no write, so no failure", x.down());
        Check.same("what can be seen", Picture.of(x), "2/2[0,23,0] -7 14/1[0] -17 23/0[0,0] -27 "
                + "| 0 14 0 0 0 0 0 0 | free 238 most 229 reached 1");
        Check.refused("what was ordered stands", DOWN, () -> x.give(2));
    }

    private static void changesNothingWhenDown() {
        RootedWords x = base();
        x.order(7);
        Check.refused("give(6), which is pending", DOWN, () -> x.give(6));
        int writes = x.writes();
        x.order(3);
        Check.refused("take(1, 0)", DOWN, () -> x.take(1, 0));
        Check.refused("give(2)", DOWN, () -> x.give(2));
        Check.refused("store(2, 0, 2)", DOWN, () -> x.store(2, 0, 2));
        Check.refused("setRoot(0, 0)", DOWN, () -> x.setRoot(0, 0));
        Check.same("writes", x.writes(), writes);
        Check.same("recover()", x.recover(), 1);
        Check.same("what was pending is done, and nothing more", Picture.of(x),
                "2/2[0,0] -6 | 2 0 0 0 0 0 0 0 | free 250 most 250 reached 1");
        Check.same("3 writes", x.writes() - writes, 3);
        Check.refused("what was ordered stands: no write now", DOWN, () -> x.setRoot(0, 2));
    }
}
