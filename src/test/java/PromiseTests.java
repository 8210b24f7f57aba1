import java.util.NoSuchElementException;

/** The promises one by one, while the power holds; answers worked out by hand from the document. */
final class PromiseTests {
    private static final Class<IllegalStateException> DOWN = IllegalStateException.class;
    private static final Class<NoSuchElementException> NO_ADDRESS = NoSuchElementException.class;
    private static final Class<IndexOutOfBoundsException> NO_INDEX = IndexOutOfBoundsException.class;
    private static final Class<IllegalArgumentException> WRONG = IllegalArgumentException.class;
    private static final Class<UnsupportedOperationException> NO_ROOM = UnsupportedOperationException.class;

    private PromiseTests() {
    }

    public static void main(String[] args) {
        promise1();
        promise2();
        promise2AtTheEdges();
        promise2TakesTheLowest();
        promise2ClearsOldContent();
        promise2Refuses();
        promise3();
        promise3Refuses();
        promise4();
        promise4Refuses();
        promise5();
        promise6();
        promise7();
        promise8();
        promises9And10();
        promise10WithNumbersLikeTags();
        promise11();
        promise12();
        promise12LeadsNowhere();
        promise13();
        promise14WhenUp();
        promise15();
        promise16();
        refusalsComeInOrder();
        whatIsRefusedChangesNothing();
        downRefusesAll();
        Check.end("PromiseTests");
    }

    private static void promise1() {
        RootedWords x = new RootedWords();
        Check.same("NONE", RootedWords.NONE, -1);
        Check.same("a new object", Picture.of(x), "-2 | 0 0 0 0 0 0 0 0 | free 254 most 254 reached 0");
        Check.same("writes", x.writes(), 0);
        Check.no("down", x.down());
        for (int i = 0; i < 4; i++) {
            x.take(50, 0);
        }
        Check.same("all these writes take place, since none was ordered to fail", x.writes(), 4 * (50 + 14));
        Check.same("another new object", Picture.of(new RootedWords()),
                "-2 | 0 0 0 0 0 0 0 0 | free 254 most 254 reached 0");
    }

    private static void promise2() {
        RootedWords x = new RootedWords();
        Check.same("take(5, 2)", x.take(5, 2), 2);
        Check.same("5 words and a change of 4", x.writes(), 5 + 14);
        Check.same("take(1, 1)", x.take(1, 1), 9);
        Check.same("1 word and a change of 4", x.writes(), 19 + 1 + 14);
        Check.same("take(3, 0)", x.take(3, 0), 12);
        Check.same("after three takes", Picture.of(x), "2/2[0,0,0,0,0] 9/1[0] 12/0[0,0,0] -17 "
                + "| 0 0 0 0 0 0 0 0 | free 239 most 239 reached 0");
    }

    private static void promise2AtTheEdges() {
        int[][] wordsContentWrites = {{254, 254, 254 + 8}, {253, 254, 254 + 8}, {252, 254, 254 + 8},
            {251, 251, 251 + 14}, {250, 250, 250 + 14}, {1, 1, 1 + 14}};
        for (int[] row : wordsContentWrites) {
            RootedWords x = new RootedWords();
            String name = "take(" + row[0] + ", " + row[0] + ")";
            Check.same(name, x.take(row[0], row[0]), 2);
            Check.same(name + " content", x.size(2, 0), row[1]);
            Check.same(name + " pointers", x.size(2, 1), row[0]);
            Check.same(name + " writes", x.writes(), row[2]);
            Check.same(name + " free", x.freeWords(), row[1] == 254 ? 0 : 252 - row[1]);
        }
        RootedWords x = new RootedWords();
        x.take(251, 0);
        Check.same("the smallest extent that is cut off", x.extent(1), -255);
        Check.same("it is taken whole", x.take(1, 1), 255);
        Check.same("it has one word", x.size(255, 0), 1);
        Check.refused("nothing is left", NO_ROOM, () -> x.take(1, 0));
    }

    private static void promise2TakesTheLowest() {
        Check.same("withGaps", Picture.of(Heaps.withGaps()), "2/2[0,0,0] -7 14/1[0] -17 23/0[0,0] -27 "
                + "| 0 0 0 0 0 0 0 0 | free " + (5 + 4 + 229) + " most 229 reached 0");
        Check.same("4 words fit in the gap of 5, not only in that of 4", Heaps.withGaps().take(4, 0), 7);
        Check.same("5 words", Heaps.withGaps().take(5, 0), 7);
        Check.same("6 words", Heaps.withGaps().take(6, 0), 27);
        RootedWords x = Heaps.withGaps();
        Check.same("3 words in a gap of 5", x.take(3, 1), 7);
        Check.same("it keeps two words more", x.size(7, 0), 5);
        Check.same("they are no pointers", x.size(7, 1), 1);
        Check.same("4 words in a gap of 4", x.take(4, 0), 17);
        RootedWords y = Heaps.withGaps();
        Check.same("2 words in a gap of 5", y.take(2, 0), 7);
        Check.same("it has just 2 words", y.size(7, 0), 2);
        Check.same("the rest is free", y.extent(2), -11);
        Check.same("1 word in the rest", y.take(1, 0), 11);
    }

    private static void promise2ClearsOldContent() {
        RootedWords x = new RootedWords();
        x.take(2, 0);
        x.take(6, 0);
        for (int i = 0; i < 6; i++) {
            x.store(6, i, 900 + i);
        }
        x.give(6);
        x.give(2);
        x.take(12, 0);
        Check.same("old content and old tags are gone", Picture.of(x),
                "2/0[0,0,0,0,0,0,0,0,0,0,0,0] -16 | 0 0 0 0 0 0 0 0 | free 240 most 240 reached 0");
    }

    private static void promise2Refuses() {
        RootedWords x = new RootedWords();
        int[][] wrong = {{0, 0}, {-1, 0}, {255, 0}, {Integer.MIN_VALUE, 0}, {Integer.MAX_VALUE, 0}, {5, -1}, {5, 6},
            {254, 255}, {1, 2}, {5, Integer.MAX_VALUE}, {5, Integer.MIN_VALUE}, {-5, -5}, {Integer.MAX_VALUE, 3}};
        for (int[] row : wrong) {
            Check.refused("take(" + row[0] + ", " + row[1] + ")", WRONG, () -> x.take(row[0], row[1]));
        }
        x.take(200, 0);
        Check.refused("take(53, 0) when 52 are left", NO_ROOM, () -> x.take(53, 0));
        Check.refused("a wrong argument before too little room", WRONG, () -> x.take(53, 54));
        Check.same("take(52, 52)", x.take(52, 52), 204);
        Check.refused("take(1, 0) when all is used", NO_ROOM, () -> x.take(1, 0));
        Check.same("writes", x.writes(), 200 + 14 + 52 + 8);
    }

    private static void promise3() {
        RootedWords x = Heaps.withGaps();
        int before = x.writes();
        Check.same("one with both neighbours", x.give(14), 7);
        Check.same("a change of 2", x.writes() - before, 8);
        Check.same("give(14)", Picture.of(x), "2/2[0,0,0] -7 23/0[0,0] -27 | 0 0 0 0 0 0 0 0 | free "
                + (5 + 1 + 4 + 4 + 229) + " most 229 reached 0");
        Check.same("one with the one behind, at the lowest address", x.give(2), 2);
        Check.same("one with both, and so all", x.give(23), 2);
        Check.same("all is free", Picture.of(x), "-2 | 0 0 0 0 0 0 0 0 | free 254 most 254 reached 0");
        Check.same("each a change of 2", x.writes() - before, 24);

        RootedWords y = new RootedWords();
        y.take(3, 0);
        y.take(3, 0);
        y.take(244, 0);
        Check.same("between used ones", y.give(7), 7);
        Check.same("at the end, with the one before", y.give(12), 7);
        Check.same("the whole heap again", y.give(2), 2);
        Check.same("size", y.largestFree(), 254);
    }

    private static void promise3Refuses() {
        RootedWords x = Heaps.withGaps();
        int[] wrong = {0, 1, 3, 4, 5, 6, 7, 8, 13, 15, 17, 27, 254, 255, 256, 257, 1000, -1, -2, -14,
            Integer.MIN_VALUE, Integer.MAX_VALUE};
        for (int address : wrong) {
            Check.refused("give(" + address + ")", NO_ADDRESS, () -> x.give(address));
        }
        x.give(14);
        Check.refused("given twice", NO_ADDRESS, () -> x.give(14));
    }

    private static void promise4() {
        RootedWords x = Heaps.withGaps();
        int before = x.writes();
        Check.same("store(2, 0, 14)", x.store(2, 0, 14), 0);
        Check.same("store(2, 0, 2), itself", x.store(2, 0, 2), 14);
        Check.same("store(2, 0, 0)", x.store(2, 0, 0), 2);
        Check.same("no pointer takes any number", x.store(2, 2, Integer.MIN_VALUE), 0);
        Check.same("store(2, 2, 7)", x.store(2, 2, 7), Integer.MIN_VALUE);
        Check.same("store(2, 2, 7), the same again", x.store(2, 2, 7), 7);
        Check.same("each a change of 1", x.writes() - before, 6 * 5);
        Check.same("stored", Picture.of(x), "2/2[0,0,7] -7 14/1[0] -17 23/0[0,0] -27 "
                + "| 0 0 0 0 0 0 0 0 | free 238 most 229 reached 0");
    }

    private static void promise4Refuses() {
        RootedWords x = Heaps.withGaps();
        int[] noPointers = {7, 17, 27, 1, 3, 15, 256, 257, -2, -14, Integer.MAX_VALUE, Integer.MIN_VALUE};
        for (int w : noPointers) {
            Check.refused("store(2, 0, " + w + ")", WRONG, () -> x.store(2, 0, w));
            Check.refused("store(2, 1, " + w + ")", WRONG, () -> x.store(2, 1, w));
            x.store(23, 0, w);
            Check.same("load(23, 0), which is no pointer", x.load(23, 0), w);
        }
        int[] noWords = {-1, 3, 4, 256, Integer.MIN_VALUE, Integer.MAX_VALUE};
        for (int i : noWords) {
            Check.refused("store(2, " + i + ", 0)", NO_INDEX, () -> x.store(2, i, 0));
        }
        Check.refused("store(14, 1, 0)", NO_INDEX, () -> x.store(14, 1, 0));
        int[] noAddresses = {0, 1, 3, 7, 27, 257, -2, Integer.MAX_VALUE, Integer.MIN_VALUE};
        for (int address : noAddresses) {
            Check.refused("store(" + address + ", 0, 0)", NO_ADDRESS, () -> x.store(address, 0, 0));
        }
        x.store(14, 0, 2);
        x.give(2);
        Check.same("a pointer stays when what it told is given back", x.load(14, 0), 2);
        Check.refused("but it cannot be stored again", WRONG, () -> x.store(14, 0, 2));
    }

    private static void promise5() {
        RootedWords x = Heaps.withGaps();
        x.store(2, 0, 14);
        x.store(2, 2, -77);
        int before = x.writes();
        Check.same("load(2, 0)", x.load(2, 0), 14);
        Check.same("load(2, 1)", x.load(2, 1), 0);
        Check.same("load(2, 2)", x.load(2, 2), -77);
        int[] noWords = {-1, 3, 4, 256, Integer.MIN_VALUE, Integer.MAX_VALUE};
        for (int i : noWords) {
            Check.refused("load(2, " + i + ")", NO_INDEX, () -> x.load(2, i));
        }
        int[] noAddresses = {0, 1, 3, 7, 27, 257, -2, Integer.MAX_VALUE, Integer.MIN_VALUE};
        for (int address : noAddresses) {
            Check.refused("load(" + address + ", 0)", NO_ADDRESS, () -> x.load(address, 0));
        }
        Check.same("no writes", x.writes() - before, 0);
    }

    private static void promise6() {
        RootedWords x = Heaps.withGaps();
        int[] others = {1, 2, -1, Integer.MIN_VALUE, Integer.MAX_VALUE};
        for (int what : others) {
            Check.same("size(2, " + what + ")", x.size(2, what), 2);
            Check.same("size(23, " + what + ")", x.size(23, what), 0);
        }
        Check.same("size(2, 0)", x.size(2, 0), 3);
        Check.same("size(23, 0)", x.size(23, 0), 2);
        int[] noAddresses = {0, 1, 3, 7, 27, 257, -2, Integer.MAX_VALUE, Integer.MIN_VALUE};
        for (int address : noAddresses) {
            Check.refused("size(" + address + ", 0)", NO_ADDRESS, () -> x.size(address, 0));
            Check.refused("size(" + address + ", 1)", NO_ADDRESS, () -> x.size(address, 1));
        }
    }

    private static void promise7() {
        RootedWords x = Heaps.withGaps();
        int before = x.writes();
        Check.same("setRoot(0, 2)", x.setRoot(0, 2), 0);
        Check.same("setRoot(7, 14)", x.setRoot(7, 14), 0);
        Check.same("setRoot(7, 23)", x.setRoot(7, 23), 14);
        Check.same("setRoot(7, 23), the same again", x.setRoot(7, 23), 23);
        Check.same("setRoot(0, 0)", x.setRoot(0, 0), 2);
        Check.same("each a change of 1", x.writes() - before, 5 * 5);
        Check.same("the others stay", Picture.of(x), "2/2[0,0,0] -7 14/1[0] -17 23/0[0,0] -27 "
                + "| 0 0 0 0 0 0 0 23 | free 238 most 229 reached 1");
        int[] noRoots = {-1, 8, 9, Integer.MIN_VALUE, Integer.MAX_VALUE};
        for (int r : noRoots) {
            Check.refused("setRoot(" + r + ", 2)", NO_INDEX, () -> x.setRoot(r, 2));
            Check.refused("setRoot(" + r + ", 3)", NO_INDEX, () -> x.setRoot(r, 3));
        }
        int[] noAddresses = {1, 3, 7, 27, 257, -2, Integer.MAX_VALUE, Integer.MIN_VALUE};
        for (int w : noAddresses) {
            Check.refused("setRoot(0, " + w + ")", NO_ADDRESS, () -> x.setRoot(0, w));
        }
        x.give(23);
        Check.same("it answers as root() would", x.setRoot(7, 0), 0);
        x.take(229, 0);
        Check.same("and the old number is gone", x.root(7), 0);
    }

    private static void promise8() {
        RootedWords x = Heaps.withGaps();
        x.setRoot(3, 14);
        int before = x.writes();
        Check.same("root(3)", x.root(3), 14);
        Check.same("root(0)", x.root(0), 0);
        Check.same("root(7)", x.root(7), 0);
        int[] noRoots = {-1, 8, 9, Integer.MIN_VALUE, Integer.MAX_VALUE};
        for (int r : noRoots) {
            Check.refused("root(" + r + ")", NO_INDEX, () -> x.root(r));
        }
        Check.same("no writes", x.writes() - before, 0);
        x.give(14);
        Check.same("no used address any more", x.root(3), 0);
        x.take(2, 0);
        x.take(1, 0);
        Check.same("7 and 11 are used, 14 is not", x.root(3), 0);
        x.give(11);
        x.give(7);
        x.take(5, 0);
        x.take(1, 0);
        Check.same("14 is a used address again", x.root(3), 14);
    }

    private static void promises9And10() {
        RootedWords x = Heaps.withGaps();
        int before = x.writes();
        Check.same("freeWords", x.freeWords(), 5 + 4 + 229);
        Check.same("largestFree", x.largestFree(), 229);
        Check.same("no writes", x.writes() - before, 0);
        x.take(229, 0);
        Check.same("freeWords without the last", x.freeWords(), 5 + 4);
        Check.same("the greatest is not the last", x.largestFree(), 5);
        x.take(5, 0);
        Check.same("the last one free", x.largestFree(), 4);
        x.take(4, 0);
        Check.same("none is free: freeWords", x.freeWords(), 0);
        Check.same("none is free: largestFree", x.largestFree(), 0);
    }

    private static void promise10WithNumbersLikeTags() {
        RootedWords x = new RootedWords();
        x.take(1, 0);
        x.give(2);
        x.take(254, 0);
        for (int i = 0; i < 254; i++) {
            x.store(2, i, 250 * 256);
        }
        Check.same("content that looks like free extents: largestFree", x.largestFree(), 0);
        Check.same("content that looks like free extents: freeWords", x.freeWords(), 0);
        Check.refused("content that looks like free extents", NO_ROOM, () -> x.take(1, 0));
        Check.refused("content that looks like free extents", NO_INDEX, () -> x.extent(1));
        Check.same("give(2)", x.give(2), 2);
    }

    private static void promise11() {
        RootedWords x = Heaps.withGaps();
        int[] due = {2, -7, 14, -17, 23, -27};
        for (int i = 0; i < due.length; i++) {
            Check.same("extent(" + i + ")", x.extent(i), due[i]);
        }
        int[] none = {-1, 6, 7, 85, 86, 87, 256, 300, Integer.MIN_VALUE, Integer.MAX_VALUE};
        for (int i : none) {
            Check.refused("extent(" + i + ")", NO_INDEX, () -> x.extent(i));
        }
        RootedWords full = new RootedWords();
        for (int i = 0; i < 85; i++) {
            Check.same("the take of the smallest extent " + i, full.take(1, 1), 2 + 3 * i);
        }
        Check.refused("the heap is full", NO_ROOM, () -> full.take(1, 0));
        Check.same("the last has what was left", full.size(254, 0), 2);
        Check.same("the last extent", full.extent(84), 254);
        Check.refused("none behind it", NO_INDEX, () -> full.extent(85));
    }

    private static void promise12() {
        RootedWords x = new RootedWords();
        for (int i = 0; i < 6; i++) {
            x.take(3, 2);
        }
        int before = x.writes();
        Check.same("no root", x.reached(), 0);
        Check.same("no writes", x.writes() - before, 0);
        x.setRoot(5, 12);
        Check.same("a root", x.reached(), 1);
        x.setRoot(6, 12);
        Check.same("twice the same", x.reached(), 1);
        x.store(12, 1, 2);
        Check.same("from it to another", x.reached(), 2);
        x.store(2, 0, 12);
        x.store(2, 1, 2);
        Check.same("round and round", x.reached(), 2);
        x.store(22, 0, 27);
        Check.same("one that is not reached leads nowhere", x.reached(), 2);
        x.setRoot(0, 22);
        Check.same("now it is", x.reached(), 4);
        RootedWords full = new RootedWords();
        for (int i = 0; i < 85; i++) {
            full.take(1, 1);
        }
        for (int i = 0; i < 84; i++) {
            full.store(254 - 3 * i, 0, 251 - 3 * i);
        }
        full.setRoot(7, 254);
        Check.same("a chain through all", full.reached(), 85);
        full.store(2 + 3 * 40, 0, 0);
        Check.same("a broken chain", full.reached(), 45);
    }

    private static void promise12LeadsNowhere() {
        RootedWords x = Heaps.withGaps();
        x.setRoot(0, 2);
        x.store(2, 2, 14);
        Check.same("a word behind the pointers", x.reached(), 1);
        x.store(2, 0, 14);
        x.store(14, 0, 23);
        Check.same("pointers", x.reached(), 3);
        x.give(14);
        Check.same("what is given back leads nowhere", x.reached(), 1);
        x.take(5, 0);
        x.take(1, 1);
        Check.same("an old pointer leads to a new extent", x.reached(), 2);
        x.give(2);
        Check.same("the root is no used address any more", x.reached(), 0);
        x.take(3, 3);
        Check.same("the old root leads to a new extent", x.reached(), 1);

        RootedWords y = new RootedWords();
        y.take(2, 2);
        y.take(9, 0);
        y.take(2, 2);
        y.store(2, 0, 6);
        y.setRoot(0, 2);
        y.give(6);
        y.take(3, 0);
        y.take(2, 0);
        y.give(6);
        Check.same("a pointer to a free extent", y.reached(), 1);
        y.give(11);
        y.give(2);
        y.take(1, 0);
        y.take(4, 4);
        y.setRoot(0, 5);
        Check.same("a root elsewhere", y.reached(), 1);
    }

    private static void promise13() {
        RootedWords x = new RootedWords();
        Check.yes("order(0)", x.order(0));
        Check.yes("order(1000)", x.order(1000));
        Check.no("order(-1)", x.order(-1));
        Check.no("order(1001)", x.order(1001));
        Check.no("order(least)", x.order(Integer.MIN_VALUE));
        Check.no("order(greatest)", x.order(Integer.MAX_VALUE));
        for (int i = 0; i < 3; i++) {
            x.take(254, 0);
            x.give(2);
        }
        Check.same("810 writes", x.writes(), 810);
        x.take(176, 0);
        Check.same("1000 writes", x.writes(), 1000);
        Check.no("up yet", x.down());
        Check.refused("the 1001st", DOWN, () -> x.give(2));
        Check.yes("down", x.down());
        Check.same("it did not take place", x.writes(), 1000);
        Check.yes("an order while it is down", x.order(2));
        Check.no("a wrong one leaves what was ordered", x.order(-1));
        Check.refused("recovery: the third write", DOWN, () -> x.recover());
        Check.same("two took place", x.writes(), 1002);
        Check.same("no failure is ordered any more", x.recover(), 0);
        x.order(1);
        x.order(15);
        Check.same("the later order stands instead", x.take(1, 0), 2);
        Check.no("up yet", x.down());
    }

    private static void promise14WhenUp() {
        RootedWords x = Heaps.withGaps();
        int before = x.writes();
        Check.same("recover() when the heap is up", x.recover(), RootedWords.NONE);
        Check.same("no writes", x.writes() - before, 0);
        Check.same("nothing is swept", x.extent(0), 2);
        x.order(0);
        Check.same("recover() when the heap is up yet", x.recover(), RootedWords.NONE);
        Check.refused("what was ordered stands", DOWN, () -> x.give(2));
    }

    private static void promise15() {
        RootedWords x = new RootedWords();
        x.take(7, 1);
        Check.same("take", x.writes(), 7 + 14);
        x.take(236, 0);
        Check.same("take", x.writes(), 21 + 236 + 14);
        x.take(5, 0);
        Check.same("take of all that is left, 7 words", x.writes(), 271 + 7 + 8);
        x.store(2, 0, 2);
        x.setRoot(0, 2);
        x.give(11);
        Check.same("store, setRoot, give", x.writes(), 286 + 5 + 5 + 8);
        x.order(3);
        Check.refused("give", DOWN, () -> x.give(2));
        Check.same("those before the failing one", x.writes(), 304 + 3);
    }

    private static void promise16() {
        RootedWords x = new RootedWords();
        x.order(0);
        Check.no("before", x.down());
        Check.refused("take", DOWN, () -> x.take(1, 0));
        Check.yes("behind", x.down());
        Check.yes("until recovery", x.down());
        x.recover();
        Check.no("after", x.down());
    }

    private static void refusalsComeInOrder() {
        RootedWords x = Heaps.withGaps();
        Check.refused("store: the address first", NO_ADDRESS, () -> x.store(3, 99, 3));
        Check.refused("store: then the word", NO_INDEX, () -> x.store(2, -1, 3));
        Check.refused("store: then the pointer", WRONG, () -> x.store(2, 1, 3));
        Check.refused("load: the address first", NO_ADDRESS, () -> x.load(7, 99));
        Check.refused("setRoot: the root first", NO_INDEX, () -> x.setRoot(8, 3));
        Check.refused("setRoot: then the address", NO_ADDRESS, () -> x.setRoot(1, 3));
        x.order(0);
        Check.refused("a wrong argument, before any write", WRONG, () -> x.take(1, 2));
        Check.refused("no root", NO_INDEX, () -> x.setRoot(8, 2));
        Check.refused("no address", NO_ADDRESS, () -> x.give(7));
        Check.refused("no room", NO_ROOM, () -> x.take(230, 2));
        Check.no("no write, so no failure", x.down());
    }

    private static void whatIsRefusedChangesNothing() {
        RootedWords x = Heaps.withGaps();
        x.setRoot(2, 14);
        String before = Picture.of(x);
        int writes = x.writes();
        Check.refused("take", WRONG, () -> x.take(5, 6));
        Check.refused("take", NO_ROOM, () -> x.take(230, 0));
        Check.refused("give", NO_ADDRESS, () -> x.give(17));
        Check.refused("store", NO_ADDRESS, () -> x.store(17, 0, 2));
        Check.refused("store", NO_INDEX, () -> x.store(2, 3, 2));
        Check.refused("store", WRONG, () -> x.store(2, 0, 17));
        Check.refused("setRoot", NO_INDEX, () -> x.setRoot(-1, 2));
        Check.refused("setRoot", NO_ADDRESS, () -> x.setRoot(2, 17));
        Check.same("all is as before", Picture.of(x), before);
        Check.same("no writes", x.writes(), writes);
    }

    private static void downRefusesAll() {
        RootedWords x = Heaps.withGaps();
        x.order(0);
        Check.refused("the power fails", DOWN, () -> x.store(2, 0, 0));
        int writes = x.writes();
        Check.refused("take", DOWN, () -> x.take(0, 0));
        Check.refused("take", DOWN, () -> x.take(1, 0));
        Check.refused("take", DOWN, () -> x.take(254, 0));
        Check.refused("give", DOWN, () -> x.give(2));
        Check.refused("give", DOWN, () -> x.give(3));
        Check.refused("store", DOWN, () -> x.store(3, 0, 0));
        Check.refused("store", DOWN, () -> x.store(2, 9, 0));
        Check.refused("load", DOWN, () -> x.load(3, 0));
        Check.refused("load", DOWN, () -> x.load(2, 9));
        Check.refused("size", DOWN, () -> x.size(3, 0));
        Check.refused("size", DOWN, () -> x.size(2, 1));
        Check.refused("setRoot", DOWN, () -> x.setRoot(8, 2));
        Check.refused("setRoot", DOWN, () -> x.setRoot(0, 3));
        Check.refused("root", DOWN, () -> x.root(8));
        Check.refused("root", DOWN, () -> x.root(0));
        Check.refused("freeWords", DOWN, () -> x.freeWords());
        Check.refused("largestFree", DOWN, () -> x.largestFree());
        Check.refused("extent", DOWN, () -> x.extent(0));
        Check.refused("extent", DOWN, () -> x.extent(-1));
        Check.refused("reached", DOWN, () -> x.reached());
        Check.same("no writes", x.writes(), writes);
        Check.no("order(1001)", x.order(1001));
        Check.yes("order(1000)", x.order(1000));
        Check.yes("down", x.down());
    }
}
