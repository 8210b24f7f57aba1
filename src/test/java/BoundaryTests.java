import java.util.NoSuchElementException;

/** For each sentence of the document's promises that names a boundary case a test, with its promise. */
final class BoundaryTests {
    private static final Class<IllegalStateException> DOWN = IllegalStateException.class;
    private static final Class<NoSuchElementException> NO_ADDRESS = NoSuchElementException.class;
    private static final Class<IndexOutOfBoundsException> NO_INDEX = IndexOutOfBoundsException.class;
    private static final Class<IllegalArgumentException> WRONG = IllegalArgumentException.class;
    private static final Class<UnsupportedOperationException> NO_ROOM = UnsupportedOperationException.class;

    /** What is no used address when withGaps() stands: free ones, own words, words inside, and what is outside. */
    private static final int[] NOT_USED = {0, 1, 3, 4, 5, 6, 7, 13, 15, 17, 22, 24, 27, 255, 256, -14};

    private BoundaryTests() {
    }

    public static void main(String[] args) {
        promise1();
        promise2();
        promise3();
        promise4();
        promise5();
        promise6();
        promise7();
        promise8();
        promises9And10();
        promise11();
        promise12();
        promise13();
        promise14();
        promises15And16();
        Check.end("BoundaryTests");
    }

    private static void promise1() {
        Check.sentence("Promise 1", "One free extent, roots 0, no writes", BoundaryTests::newObject);
        Check.sentence("Promise 1", "no failure ordered, up", BoundaryTests::newObjectIsUp);
        Check.sentence("The public face", "public static final int NONE = -1;",
                () -> Check.same("NONE", RootedWords.NONE, -1));
    }

    private static void newObject() {
        RootedWords x = new RootedWords();
        Check.same("writes()", x.writes(), 0);
        Check.same("extent(0)", x.extent(0), -2);
        Check.refused("extent(1)", NO_INDEX, () -> x.extent(1));
        for (int r = 0; r < 8; r++) {
            Check.same("root(" + r + ")", x.root(r), 0);
        }
        Check.same("writes() yet", x.writes(), 0);
        x.take(9, 0);
        Check.same("another new one", Heaps.extents(new RootedWords()), "-2");
    }

    private static void newObjectIsUp() {
        RootedWords x = new RootedWords();
        Check.no("down()", x.down());
        Check.same("recover()", x.recover(), -1);
        for (int i = 0; i < 5; i++) {
            x.take(254, 0);
            x.give(2);
        }
        Check.same("more writes than may be ordered to take place", x.writes(), 5 * 270);
        Check.no("down()", x.down());
    }

    private static void promise2() {
        Check.sentence("Promise 2", "of the free extents whose content has so many words or more",
                BoundaryTests::contentThatFits);
        Check.sentence("Promise 2", "that with the lowest address is taken", BoundaryTests::lowestAddress);
        Check.sentence("Promise 2", "If it has 3 words or more beyond words + 2, those are a free extent of their own "
                + "behind, and the used one has a content of just so many words", BoundaryTests::cutOff);
        Check.sentence("Promise 2", "otherwise all of it becomes the used one (so its content may have one or two "
                + "words more)", BoundaryTests::takenWhole);
        Check.sentence("Promise 2", "It has so many pointers", BoundaryTests::soManyPointers);
        Check.sentence("Promise 2", "and all words of its content are 0", BoundaryTests::allWordsAreZero);
        Check.sentence("Promise 2", "First each word of the content is written, then there is a change of 4 words, "
                + "or of 2, if nothing was cut off.", BoundaryTests::writesOfTake);
        Check.sentence("Promise 2", "Answers the address.", BoundaryTests::answersTheAddress);
        Check.sentence("Promise 2", "IllegalArgumentException: words is not 1 .. 254", BoundaryTests::wrongWords);
        Check.sentence("Promise 2", "or pointers is not from 0 to words", BoundaryTests::wrongPointers);
        Check.sentence("Promise 2", "UnsupportedOperationException: there is no such extent", BoundaryTests::noRoom);
    }

    private static void contentThatFits() {
        Check.same("5 words in the gap of 5", Heaps.withGaps().take(5, 0), 7);
        Check.same("6 words behind it", Heaps.withGaps().take(6, 0), 27);
        RootedWords x = Heaps.withGaps();
        x.take(5, 0);
        Check.same("4 words in the gap of 4", x.take(4, 0), 17);
        Check.same("229 words in the last", x.take(229, 0), 27);
    }

    private static void lowestAddress() {
        RootedWords x = Heaps.of(9, 1, 3, 1, 7, 1);
        x.give(2);
        x.give(16);
        x.give(24);
        Check.same("free extents of 9, 3, 7 and 218 words", Heaps.extents(x), "-2 13 -16 21 -24 33 -36");
        Check.same("not that of just 3 words", x.take(3, 0), 2);
        Check.same("what was cut off comes next", x.take(4, 0), 7);
        Check.same("then that of 3 words", x.take(1, 0), 16);
        Check.same("then that of 7 words", x.take(1, 0), 24);
        Check.same("what was cut off there", x.take(4, 0), 27);
        Check.same("then the last", x.take(1, 0), 36);
    }

    private static void cutOff() {
        RootedWords x = new RootedWords();
        x.take(251, 0);
        Check.same("3 words beyond: extents", Heaps.extents(x), "2 -255");
        Check.same("3 words beyond: content", x.size(2, 0), 251);
        Check.same("3 words beyond: free content", x.freeWords(), 1);
        RootedWords y = new RootedWords();
        y.take(250, 0);
        Check.same("4 words beyond: extents", Heaps.extents(y), "2 -254");
        Check.same("4 words beyond: content", y.size(2, 0), 250);
        Check.same("4 words beyond: free content", y.freeWords(), 2);
        RootedWords z = Heaps.withGaps();
        z.take(2, 1);
        Check.same("3 words beyond, in a gap", Heaps.extents(z), "2 7 -11 14 -17 23 -27");
        Check.same("its content", z.size(7, 0), 2);
        Check.same("free content", z.freeWords(), 1 + 4 + 229);
    }

    private static void takenWhole() {
        for (int words = 252; words <= 254; words++) {
            RootedWords x = new RootedWords();
            x.take(words, 0);
            Check.same(words + " of 254: extents", Heaps.extents(x), "2");
            Check.same(words + " of 254: content", x.size(2, 0), 254);
            Check.same(words + " of 254: the last word", x.load(2, 253), 0);
            Check.refused(words + " of 254: none behind", NO_INDEX, () -> x.load(2, 254));
        }
        for (int words = 3; words <= 5; words++) {
            RootedWords x = Heaps.withGaps();
            x.take(words, 0);
            Check.same(words + " of 5: extents", Heaps.extents(x), "2 7 14 -17 23 -27");
            Check.same(words + " of 5: content", x.size(7, 0), 5);
        }
    }

    private static void soManyPointers() {
        int[][] wordsPointers = {{1, 0}, {1, 1}, {254, 0}, {254, 253}, {254, 254}, {252, 252}, {251, 251}};
        for (int[] row : wordsPointers) {
            RootedWords x = new RootedWords();
            x.take(row[0], row[1]);
            Check.same("take(" + row[0] + ", " + row[1] + ")", x.size(2, 1), row[1]);
        }
        RootedWords x = Heaps.withGaps();
        x.take(3, 3);
        Check.same("words more are no pointers", x.size(7, 1), 3);
        Check.refused("the last pointer", WRONG, () -> x.store(7, 2, 1));
        Check.same("the first word more", x.store(7, 3, 1), 0);
    }

    private static void allWordsAreZero() {
        RootedWords x = Heaps.of(2, 5, 1);
        for (int i = 0; i < 5; i++) {
            x.store(6, i, 6);
        }
        x.give(6);
        x.take(3, 0);
        for (int i = 0; i < 5; i++) {
            Check.same("what was content, word " + i, x.load(6, i), 0);
        }
        x.store(6, 4, 99);
        x.give(6);
        x.give(2);
        x.take(9, 0);
        for (int i = 0; i < 9; i++) {
            Check.same("what were contents and own words, word " + i, x.load(2, i), 0);
        }
    }

    private static void writesOfTake() {
        int[][] wordsWrites = {{1, 1 + 14}, {250, 250 + 14}, {251, 251 + 14}, {252, 254 + 8}, {253, 254 + 8},
            {254, 254 + 8}};
        for (int[] row : wordsWrites) {
            RootedWords x = new RootedWords();
            x.take(row[0], 0);
            Check.same("take(" + row[0] + ", 0)", x.writes(), row[1]);
            // Were words of the content written behind the change, its note would be valid, and pending, earlier.
            RootedWords y = Heaps.of(1);
            y.setRoot(0, 2);
            y.give(2);
            int before = y.writes();
            int noted = row[1] == 254 + 8 ? 254 + 4 : row[0] + 8;
            y.order(noted);
            Check.refused("cut before the note is valid", DOWN, () -> y.take(row[0], 0));
            Check.same("nothing is done", y.recover(), 0);
            y.order(noted + 1);
            Check.refused("cut when the note is valid", DOWN, () -> y.take(row[0], 0));
            Check.same("it is done", y.recover(), 1);
            Check.same("its words", y.size(2, 0), row[1] == 254 + 8 ? 254 : row[0]);
            Check.same("writes", y.writes() - before, 2 * noted + 1 + (row[1] == 254 + 8 ? 3 : 5));
        }
    }

    private static void answersTheAddress() {
        RootedWords x = new RootedWords();
        Check.same("the first", x.take(1, 1), 2);
        Check.same("behind it", x.take(2, 2), 5);
        Check.same("the last there can be", x.take(244, 0), 9);
        Check.same("extents", Heaps.extents(x), "2 5 9 -255");
        Check.same("all that is left", x.take(1, 0), 255);
    }

    private static void wrongWords() {
        RootedWords x = new RootedWords();
        for (int words : new int[] {0, -1, 255, 256, 257, Integer.MIN_VALUE, Integer.MAX_VALUE}) {
            Check.refused("take(" + words + ", 0)", WRONG, () -> x.take(words, 0));
        }
        Check.same("take(1, 0)", x.take(1, 0), 2);
        Check.same("take(254, 0)", new RootedWords().take(254, 0), 2);
    }

    private static void wrongPointers() {
        RootedWords x = new RootedWords();
        int[][] wrong = {{1, 2}, {1, -1}, {5, 6}, {5, -1}, {254, 255}, {253, 254}, {5, Integer.MIN_VALUE},
            {5, Integer.MAX_VALUE}};
        for (int[] row : wrong) {
            Check.refused("take(" + row[0] + ", " + row[1] + ")", WRONG, () -> x.take(row[0], row[1]));
        }
        Check.same("take(5, 0)", x.take(5, 0), 2);
        Check.same("take(5, 5)", x.take(5, 5), 9);
        Check.same("take(254, 254)", new RootedWords().take(254, 254), 2);
    }

    private static void noRoom() {
        RootedWords x = Heaps.withGaps();
        Check.refused("230 words, when 229, 5 and 4 are free", NO_ROOM, () -> x.take(230, 0));
        x.take(229, 0);
        Check.refused("6 words, when 5 and 4 are free", NO_ROOM, () -> x.take(6, 0));
        x.take(5, 0);
        Check.refused("5 words, when 4 are free", NO_ROOM, () -> x.take(5, 0));
        x.take(4, 0);
        Check.refused("1 word, when none is free", NO_ROOM, () -> x.take(1, 0));
        Check.refused("254 words, when none is free", NO_ROOM, () -> x.take(254, 254));
        Check.refused("1 word, when there are as many extents as can be", NO_ROOM, () -> Heaps.full().take(1, 0));
    }

    private static void promise3() {
        Check.sentence("Promise 3", "The used extent with this address becomes free", BoundaryTests::becomesFree);
        Check.sentence("Promise 3", "and one with its free neighbours", BoundaryTests::oneWithNeighbours);
        Check.sentence("Promise 3", "its free neighbours",
                BoundaryTests::givenAtTheEnds);
        Check.sentence("Promise 3", "a change of 2 words", BoundaryTests::writesOfGive);
        Check.sentence("Promise 3", "Answers the address of the free extent.", BoundaryTests::answersTheFreeAddress);
        Check.sentence("Promise 3", "NoSuchElementException: it is no used address", BoundaryTests::giveRefuses);
    }

    private static void becomesFree() {
        RootedWords x = Heaps.of(2, 3, 4);
        x.give(6);
        Check.same("extents", Heaps.extents(x), "2 -6 11 -17");
        Check.same("free words", x.freeWords(), 3 + 239);
        Check.refused("its words are gone", NO_ADDRESS, () -> x.load(6, 0));
        Check.same("the others stay", x.size(2, 0) + x.size(11, 0), 2 + 4);
    }

    private static void oneWithNeighbours() {
        RootedWords x = Heaps.of(2, 2, 2, 2, 2, 2, 2);
        x.give(6);
        Check.same("none is free", Heaps.extents(x), "2 -6 10 14 18 22 26 -30");
        x.give(10);
        Check.same("the one before", Heaps.extents(x), "2 -6 14 18 22 26 -30");
        Check.same("words of both, and their own words between", x.largestFree() + x.freeWords(), 2 * 226 + 6);
        x.give(22);
        x.give(18);
        Check.same("the one behind", Heaps.extents(x), "2 -6 14 -18 26 -30");
        Check.same("free words", x.freeWords(), 6 + 6 + 226);
        x.give(14);
        Check.same("both", Heaps.extents(x), "2 -6 26 -30");
        Check.same("free words", x.freeWords(), 18 + 226);
    }

    private static void givenAtTheEnds() {
        RootedWords x = Heaps.full();
        Check.same("the first", x.give(2), 2);
        Check.same("the last", x.give(254), 254);
        Check.same("free words", x.freeWords(), 1 + 2);
        Check.same("the second", x.give(5), 2);
        Check.same("the last but one", x.give(251), 251);
        Check.same("free words", x.freeWords(), 4 + 5);
        RootedWords y = Heaps.of(254);
        Check.same("first and last", y.give(2), 2);
        Check.same("the whole heap", y.freeWords(), 254);
    }

    private static void writesOfGive() {
        RootedWords x = Heaps.of(2, 2, 2, 2, 2, 2);
        int[] addresses = {2, 6, 14, 10, 22, 18};
        int writes = x.writes();
        for (int address : addresses) {
            x.give(address);
            writes += 8;
            Check.same("give(" + address + ")", x.writes(), writes);
        }
    }

    private static void answersTheFreeAddress() {
        RootedWords x = Heaps.of(2, 2, 2, 2, 2, 2);
        Check.same("without neighbours: its own", x.give(6), 6);
        Check.same("with the one before: that one's", x.give(10), 6);
        Check.same("with the one behind: its own", x.give(22), 22);
        Check.same("with both: that of the one before", x.give(14), 6);
        Check.same("with both", x.give(18), 6);
        Check.same("with the whole heap", x.give(2), 2);
    }

    private static void giveRefuses() {
        RootedWords x = Heaps.withGaps();
        for (int address : NOT_USED) {
            Check.refused("give(" + address + ")", NO_ADDRESS, () -> x.give(address));
        }
        for (int address : Heaps.FAR) {
            Check.refused("give(" + address + ")", NO_ADDRESS, () -> x.give(address));
        }
        x.give(14);
        Check.refused("give(14) twice", NO_ADDRESS, () -> x.give(14));
        RootedWords y = Heaps.of(2, 2);
        y.give(2);
        y.give(6);
        Check.refused("twice, when it became one with the whole heap", NO_ADDRESS, () -> y.give(6));
        Check.refused("give(2) of a new object", NO_ADDRESS, () -> new RootedWords().give(2));
    }

    private static void promise4() {
        Check.sentence("Promise 4", "Word i of the content becomes w", BoundaryTests::storesAnyWord);
        Check.sentence("Promise 4", "a change of 1 word", BoundaryTests::writesOfStore);
        Check.sentence("Promise 4", "Answers what it was.", BoundaryTests::storeAnswersWhatWas);
        Check.sentence("Promise 4", "NoSuchElementException: it is no used address", BoundaryTests::storeNowhere);
        Check.sentence("Promise 4", "IndexOutOfBoundsException: it has no such word", BoundaryTests::storeBeyond);
        Check.sentence("Promise 4", "IllegalArgumentException: i is below how many pointers it has, and w is neither "
                + "0 nor a used address", BoundaryTests::storeWrongPointer);
    }

    private static void storesAnyWord() {
        RootedWords x = Heaps.withGaps();
        x.store(23, 0, Integer.MIN_VALUE);
        x.store(23, 1, Integer.MAX_VALUE);
        x.store(2, 0, 23);
        x.store(2, 2, -1);
        x.store(14, 0, 14);
        Check.same("the first and the last words", Picture.of(x), "2/2[23,0,-1] -7 14/1[14] -17 "
                + "23/0[-2147483648,2147483647] -27 | 0 0 0 0 0 0 0 0 | free 238 most 229 reached 0");
        RootedWords y = new RootedWords();
        y.take(254, 0);
        y.store(2, 253, 5);
        Check.same("the last word there can be", y.load(2, 253), 5);
        RootedWords z = Heaps.withGaps();
        z.take(3, 3);
        z.store(7, 4, 5);
        Check.same("the second word more than asked for", z.load(7, 4), 5);
    }

    private static void writesOfStore() {
        RootedWords x = Heaps.withGaps();
        int writes = x.writes();
        x.store(2, 0, 2);
        Check.same("a pointer", x.writes(), writes + 5);
        x.store(2, 2, 77);
        Check.same("a number", x.writes(), writes + 10);
        x.store(2, 2, 77);
        Check.same("the same again", x.writes(), writes + 15);
    }

    private static void storeAnswersWhatWas() {
        RootedWords x = Heaps.withGaps();
        Check.same("at first 0", x.store(2, 2, 77), 0);
        Check.same("then what was stored", x.store(2, 2, -77), 77);
        Check.same("also a pointer", x.store(2, 1, 14), 0);
        x.give(14);
        Check.same("also one that leads nowhere any more", x.store(2, 1, 0), 14);
    }

    private static void storeNowhere() {
        RootedWords x = Heaps.withGaps();
        for (int address : NOT_USED) {
            Check.refused("store(" + address + ", 0, 0)", NO_ADDRESS, () -> x.store(address, 0, 0));
        }
        for (int address : Heaps.FAR) {
            Check.refused("store(" + address + ", 0, 0)", NO_ADDRESS, () -> x.store(address, 0, 0));
        }
        x.give(14);
        Check.refused("store(14, 0, 0) when it was given back", NO_ADDRESS, () -> x.store(14, 0, 0));
    }

    private static void storeBeyond() {
        RootedWords x = Heaps.withGaps();
        for (int i : new int[] {-1, 3, 4, 5, 255, Integer.MIN_VALUE, Integer.MAX_VALUE}) {
            Check.refused("store(2, " + i + ", 0)", NO_INDEX, () -> x.store(2, i, 0));
        }
        Check.refused("one word: store(14, 1, 0)", NO_INDEX, () -> x.store(14, 1, 0));
        RootedWords y = Heaps.of(254);
        Check.refused("all words: store(2, 254, 0)", NO_INDEX, () -> y.store(2, 254, 0));
    }

    private static void storeWrongPointer() {
        RootedWords x = Heaps.withGaps();
        for (int w : NOT_USED) {
            if (w != 0) {
                Check.refused("store(2, 1, " + w + ")", WRONG, () -> x.store(2, 1, w));
            }
            x.store(2, 2, w);
            Check.same("the word behind the pointers takes " + w, x.load(2, 2), w);
        }
        for (int w : Heaps.FAR) {
            Check.refused("store(2, 0, " + w + ")", WRONG, () -> x.store(2, 0, w));
        }
        Check.same("another used address", x.store(2, 1, 23), 0);
        Check.same("its own", x.store(2, 1, 2), 23);
        Check.same("0", x.store(2, 1, 0), 2);
        x.give(23);
        Check.refused("what was given back", WRONG, () -> x.store(2, 1, 23));
    }

    private static void promise5() {
        Check.sentence("Promise 5", "Word i of the content.", BoundaryTests::loadsAnyWord);
        Check.sentence("Promise 5", "NoSuchElementException: it is no used address", BoundaryTests::loadNowhere);
        Check.sentence("Promise 5", "IndexOutOfBoundsException: it has no such word", BoundaryTests::loadBeyond);
    }

    private static void loadsAnyWord() {
        RootedWords x = new RootedWords();
        x.take(252, 1);
        x.store(2, 0, 2);
        x.store(2, 1, -9);
        x.store(2, 253, 9);
        int writes = x.writes();
        Check.same("the first", x.load(2, 0), 2);
        Check.same("the second", x.load(2, 1), -9);
        Check.same("the last but one", x.load(2, 252), 0);
        Check.same("the last", x.load(2, 253), 9);
        Check.same("no writes", x.writes(), writes);
    }

    private static void loadNowhere() {
        RootedWords x = Heaps.withGaps();
        for (int address : NOT_USED) {
            Check.refused("load(" + address + ", 0)", NO_ADDRESS, () -> x.load(address, 0));
        }
        for (int address : Heaps.FAR) {
            Check.refused("load(" + address + ", 0)", NO_ADDRESS, () -> x.load(address, 0));
        }
        x.give(14);
        Check.refused("load(14, 0) when it was given back", NO_ADDRESS, () -> x.load(14, 0));
    }

    private static void loadBeyond() {
        RootedWords x = Heaps.withGaps();
        for (int i : new int[] {-1, 3, 4, 5, 255, Integer.MIN_VALUE, Integer.MAX_VALUE}) {
            Check.refused("load(2, " + i + ")", NO_INDEX, () -> x.load(2, i));
        }
        Check.refused("one word: load(14, 1)", NO_INDEX, () -> x.load(14, 1));
        RootedWords y = Heaps.of(254);
        Check.refused("all words: load(2, 254)", NO_INDEX, () -> y.load(2, 254));
    }

    private static void promise6() {
        Check.sentence("Promise 6", "How many words (what = 0) or pointers (any other what) a used extent has.",
                BoundaryTests::sizes);
        Check.sentence("Promise 6", "NoSuchElementException: it is no used address", BoundaryTests::sizeNowhere);
    }

    private static void sizes() {
        RootedWords x = Heaps.withGaps();
        Check.same("size(2, 0)", x.size(2, 0), 3);
        Check.same("size(14, 0)", x.size(14, 0), 1);
        Check.same("size(23, 0)", x.size(23, 0), 2);
        for (int what : new int[] {1, -1, 2, 3, 256, Integer.MIN_VALUE, Integer.MAX_VALUE}) {
            Check.same("size(2, " + what + ")", x.size(2, what), 2);
            Check.same("size(14, " + what + ")", x.size(14, what), 1);
            Check.same("size(23, " + what + ")", x.size(23, what), 0);
        }
        RootedWords y = Heaps.of(254);
        Check.same("as many words as can be", y.size(2, 0), 254);
        Check.same("as many pointers as can be", y.size(2, 1), 254);
    }

    private static void sizeNowhere() {
        RootedWords x = Heaps.withGaps();
        for (int address : NOT_USED) {
            Check.refused("size(" + address + ", 0)", NO_ADDRESS, () -> x.size(address, 0));
            Check.refused("size(" + address + ", 1)", NO_ADDRESS, () -> x.size(address, 1));
        }
        for (int address : Heaps.FAR) {
            Check.refused("size(" + address + ", 0)", NO_ADDRESS, () -> x.size(address, 0));
        }
        x.give(14);
        Check.refused("size(14, 0) when it was given back", NO_ADDRESS, () -> x.size(14, 0));
    }

    private static void promise7() {
        Check.sentence("Promise 7", "A root becomes w", BoundaryTests::setsAnyRoot);
        Check.sentence("Promise 7", "a change of 1 word", BoundaryTests::writesOfSetRoot);
        Check.sentence("Promise 7", "Answers what root() told of it.", BoundaryTests::setRootAnswers);
        Check.sentence("Promise 7", "IndexOutOfBoundsException: there is no such root", BoundaryTests::setNoRoot);
        Check.sentence("Promise 7", "NoSuchElementException: w is neither 0 nor a used address",
                BoundaryTests::setRootNowhere);
    }

    private static void setsAnyRoot() {
        RootedWords x = Heaps.withGaps();
        x.setRoot(0, 2);
        x.setRoot(7, 23);
        x.setRoot(6, 23);
        Check.same("the first and the last", Picture.of(x), "2/2[0,0,0] -7 14/1[0] -17 23/0[0,0] -27 "
                + "| 2 0 0 0 0 0 23 23 | free 238 most 229 reached 2");
        x.setRoot(0, 0);
        x.setRoot(7, 0);
        Check.same("0 again", x.root(0) + x.root(7), 0);
        Check.same("the one beside it stays", x.root(6), 23);
    }

    private static void writesOfSetRoot() {
        RootedWords x = Heaps.withGaps();
        int writes = x.writes();
        x.setRoot(0, 2);
        Check.same("an address", x.writes(), writes + 5);
        x.setRoot(0, 2);
        Check.same("the same again", x.writes(), writes + 10);
        x.setRoot(7, 0);
        Check.same("0, as it was", x.writes(), writes + 15);
    }

    private static void setRootAnswers() {
        RootedWords x = Heaps.withGaps();
        Check.same("at first", x.setRoot(3, 14), 0);
        Check.same("then what was set", x.setRoot(3, 23), 14);
        x.give(23);
        Check.same("0 when it is no used address any more", x.setRoot(3, 2), 0);
        Check.same("the new one", x.setRoot(3, 0), 2);
        Check.same("0", x.setRoot(3, 0), 0);
    }

    private static void setNoRoot() {
        RootedWords x = Heaps.withGaps();
        for (int r : new int[] {-1, 8, 9, -8, Integer.MIN_VALUE, Integer.MAX_VALUE}) {
            Check.refused("setRoot(" + r + ", 2)", NO_INDEX, () -> x.setRoot(r, 2));
            Check.refused("setRoot(" + r + ", 0)", NO_INDEX, () -> x.setRoot(r, 0));
        }
    }

    private static void setRootNowhere() {
        RootedWords x = Heaps.withGaps();
        for (int w : NOT_USED) {
            Check.same("setRoot(0, " + w + ")", Check.told(() -> x.setRoot(0, w)),
                    w == 0 ? "0" : "NoSuchElementException");
        }
        for (int w : Heaps.FAR) {
            Check.refused("setRoot(7, " + w + ")", NO_ADDRESS, () -> x.setRoot(7, w));
        }
        x.give(14);
        Check.refused("what was given back", NO_ADDRESS, () -> x.setRoot(0, 14));
    }

    private static void promise8() {
        Check.sentence("Promise 8", "A root; 0 too when it is no used address any more.", BoundaryTests::oldRoot);
        Check.sentence("Promise 8", "IndexOutOfBoundsException: there is no such root", BoundaryTests::noSuchRoot);
    }

    private static void oldRoot() {
        RootedWords x = Heaps.of(2, 2, 2);
        x.setRoot(0, 6);
        x.setRoot(7, 6);
        Check.same("while it is used", x.root(0) + x.root(7), 12);
        x.give(6);
        Check.same("the address of a free extent: root(0)", x.root(0), 0);
        Check.same("the address of a free extent: root(7)", x.root(7), 0);
        x.give(2);
        Check.same("a word of a free extent", x.root(0), 0);
        x.take(6, 0);
        Check.same("a word of a used extent", x.root(0), 0);
        x.give(2);
        x.take(2, 0);
        x.take(1, 0);
        Check.same("a used address once more", x.root(0), 6);
    }

    private static void noSuchRoot() {
        RootedWords x = Heaps.withGaps();
        for (int r : new int[] {-1, 8, 9, -8, Integer.MIN_VALUE, Integer.MAX_VALUE}) {
            Check.refused("root(" + r + ")", NO_INDEX, () -> x.root(r));
        }
        Check.same("root(0)", x.root(0), 0);
        Check.same("root(7)", x.root(7), 0);
    }

    private static void promises9And10() {
        Check.sentence("Promise 9", "How many words the contents of all free extents have.",
                BoundaryTests::allFreeWords);
        Check.sentence("Promise 10", "How many words the greatest content of a free extent has",
                BoundaryTests::greatestFree);
        Check.sentence("Promise 10", "0 when none is free", BoundaryTests::noneIsFree);
    }

    private static void allFreeWords() {
        Check.same("all", new RootedWords().freeWords(), 254);
        Check.same("several", Heaps.withGaps().freeWords(), 5 + 4 + 229);
        Check.same("the smallest there can be", Heaps.of(251).freeWords(), 1);
        Check.same("none", Heaps.of(254).freeWords(), 0);
        Check.same("none, with words more", Heaps.of(252).freeWords(), 0);
        RootedWords x = Heaps.full();
        for (int i = 0; i < 85; i += 2) {
            x.give(2 + 3 * i);
        }
        Check.same("as many as can be: 42 of 1 word and one of 2", x.freeWords(), 44);
    }

    private static void greatestFree() {
        Check.same("the whole heap", new RootedWords().largestFree(), 254);
        RootedWords x = Heaps.withGaps();
        Check.same("the last", x.largestFree(), 229);
        x.take(229, 0);
        Check.same("the first", x.largestFree(), 5);
        x.take(5, 0);
        Check.same("the only one", x.largestFree(), 4);
        RootedWords y = Heaps.of(3, 1, 7, 1, 5, 1, 220);
        y.give(2);
        y.give(10);
        y.give(22);
        Check.same("one between", y.largestFree(), 7);
        Check.same("the smallest there can be", Heaps.of(251).largestFree(), 1);
    }

    private static void noneIsFree() {
        Check.same("one extent", Heaps.of(254).largestFree(), 0);
        Check.same("one extent with words more", Heaps.of(252).largestFree(), 0);
        RootedWords x = Heaps.full();
        Check.same("85 extents", x.largestFree(), 0);
        x.give(5);
        Check.same("one given back", x.largestFree(), 1);
    }

    private static void promise11() {
        Check.sentence("Promise 11", "The address of the i-th extent, from 0 on", BoundaryTests::extentsFromZero);
        Check.sentence("Promise 11", "for a free one less than 0 (0 less its address)", BoundaryTests::freeExtents);
        Check.sentence("Promise 11", "IndexOutOfBoundsException: there is none", BoundaryTests::noSuchExtent);
    }

    private static void extentsFromZero() {
        RootedWords x = Heaps.of(1, 2, 3);
        Check.same("extent(0)", x.extent(0), 2);
        Check.same("extent(1)", x.extent(1), 5);
        Check.same("extent(2)", x.extent(2), 9);
        RootedWords y = Heaps.full();
        Check.same("the last there can be", y.extent(84), 254);
    }

    private static void freeExtents() {
        Check.same("all of a new object", Heaps.extents(new RootedWords()), "-2");
        Check.same("between and behind used ones", Heaps.extents(Heaps.withGaps()), "2 -7 14 -17 23 -27");
        RootedWords x = Heaps.withGaps();
        x.give(2);
        Check.same("the first", x.extent(0), -2);
        Check.same("the last there can be", Heaps.of(251).extent(1), -255);
    }

    private static void noSuchExtent() {
        RootedWords x = Heaps.withGaps();
        for (int i : new int[] {-1, 6, 7, 84, 85, 86, 256, Integer.MIN_VALUE, Integer.MAX_VALUE}) {
            Check.refused("extent(" + i + ")", NO_INDEX, () -> x.extent(i));
        }
        Check.same("the last", x.extent(5), -27);
        Check.refused("one free extent: extent(1)", NO_INDEX, () -> new RootedWords().extent(1));
        Check.refused("one used extent: extent(1)", NO_INDEX, () -> Heaps.of(254).extent(1));
        Check.refused("85 extents: extent(85)", NO_INDEX, () -> Heaps.full().extent(85));
        x.give(2);
        Check.refused("one less: extent(5)", NO_INDEX, () -> x.extent(5));
    }

    private static void promise12() {
        Check.sentence("Promise 12", "How many extents would be reached now.", BoundaryTests::reachedNow);
        Check.sentence("Promise 12", "would be reached", BoundaryTests::reachedChangesNothing);
    }

    private static void reachedNow() {
        Check.same("nothing is used", new RootedWords().reached(), 0);
        RootedWords x = Heaps.of(2, 2, 2);
        Check.same("no root", x.reached(), 0);
        x.setRoot(0, 2);
        x.setRoot(7, 10);
        Check.same("two roots", x.reached(), 2);
        x.setRoot(3, 2);
        Check.same("twice the same", x.reached(), 2);
        x.store(2, 0, 2);
        x.store(2, 1, 10);
        x.store(10, 0, 2);
        Check.same("round and round", x.reached(), 2);
        x.store(10, 1, 6);
        Check.same("all", x.reached(), 3);
        x.setRoot(7, 0);
        Check.same("a root less, but a pointer", x.reached(), 3);
        x.store(2, 1, 0);
        Check.same("a pointer less", x.reached(), 1);
        x.give(2);
        Check.same("the root tells of nothing", x.reached(), 0);

        RootedWords y = Heaps.of(2, 2, 2);
        y.store(2, 0, 6);
        Check.same("used, and not reached", y.reached(), 0);
        y.give(6);
        y.setRoot(0, 2);
        Check.same("what was given back since then is not found", y.reached(), 1);
        y.setRoot(1, 10);
        Check.same("nor what was reached", y.reached(), 2);
        y.give(10);
        Check.same("and then given back", y.reached(), 1);
    }

    private static void reachedChangesNothing() {
        RootedWords x = Heaps.withGaps();
        x.setRoot(0, 14);
        int writes = x.writes();
        x.order(0);
        Check.same("reached()", x.reached(), 1);
        Check.same("reached() again", x.reached(), 1);
        Check.same("no writes", x.writes(), writes);
        Check.no("no failure", x.down());
        Check.same("what is not reached stays", Heaps.extents(x), "2 -7 14 -17 23 -27");
    }

    private static void promise13() {
        Check.sentence("Promise 13", "The power is ordered to fail in place of the (n + 1)-th write from now",
                BoundaryTests::writesFromNow);
        Check.sentence("Promise 13", "instead of what was ordered", BoundaryTests::insteadOfTheOld);
        Check.sentence("Promise 13", "Answers true; false when n is not 0 .. 1000.", BoundaryTests::orderAnswers);
        Check.sentence("Promise 13", "false when n is not 0 .. 1000", BoundaryTests::wrongOrders);
    }

    private static void writesFromNow() {
        RootedWords x = Heaps.of(4);
        Check.yes("order(0)", x.order(0));
        Check.refused("the next write", DOWN, () -> x.store(2, 0, 0));
        x.recover();
        x.order(4);
        Check.refused("the fifth of five", DOWN, () -> x.setRoot(0, 0));
        x.recover();
        x.order(5);
        x.setRoot(0, 0);
        Check.no("up", x.down());
        Check.refused("the first of the next call", DOWN, () -> x.setRoot(0, 0));

        RootedWords y = new RootedWords();
        y.order(1000);
        for (int i = 0; i < 200; i++) {
            y.setRoot(0, 0);
        }
        Check.same("1000 writes take place", y.writes(), 1000);
        Check.refused("not the 1001st", DOWN, () -> y.setRoot(0, 0));
        Check.same("not the 1001st", y.writes(), 1000);
    }

    private static void insteadOfTheOld() {
        RootedWords x = new RootedWords();
        x.order(0);
        x.order(5);
        x.setRoot(0, 0);
        Check.no("a later moment", x.down());
        x.order(1000);
        x.order(0);
        Check.refused("a sooner moment", DOWN, () -> x.setRoot(0, 0));
        x.recover();
        for (int i = 0; i < 250; i++) {
            x.setRoot(0, 0);
        }
        Check.no("the old one is forgotten", x.down());
        Heaps.powerOff(x);
        x.order(7);
        x.order(7);
        Check.same("no writes", x.recover(), 0);
        x.setRoot(0, 0);
        Check.refused("the eighth", DOWN, () -> x.setRoot(0, 0));
    }

    private static void orderAnswers() {
        RootedWords x = new RootedWords();
        for (int n : new int[] {0, 1, 999, 1000}) {
            Check.yes("order(" + n + ")", x.order(n));
        }
        for (int n : new int[] {-1, -2, 1001, 1002, Integer.MIN_VALUE, Integer.MAX_VALUE}) {
            Check.no("order(" + n + ")", x.order(n));
        }
        Check.same("no writes", x.writes(), 0);
    }

    private static void wrongOrders() {
        RootedWords x = new RootedWords();
        x.order(-1);
        x.order(1001);
        for (int i = 0; i < 250; i++) {
            x.setRoot(0, 0);
        }
        Check.no("nothing was ordered", x.down());
        x.order(0);
        x.order(-1);
        x.order(1001);
        Check.refused("what was ordered stands", DOWN, () -> x.setRoot(0, 0));
    }

    private static void promise14() {
        Check.sentence("Promise 14", "Recovery, when the heap is down.", BoundaryTests::nothingWhenUp);
        Check.sentence("Promise 14", "Answers how many used extents there are then", BoundaryTests::recoverCounts);
        Check.sentence("Promise 14", "NONE when the heap is up", BoundaryTests::noneWhenUp);
        Check.sentence("Promise 14", "IllegalStateException: the power fails; the heap is down still.",
                BoundaryTests::recoverFails);
    }

    private static void nothingWhenUp() {
        RootedWords x = Heaps.withGaps();
        x.setRoot(0, 14);
        int writes = x.writes();
        x.order(0);
        x.recover();
        Check.same("no writes", x.writes(), writes);
        Check.no("no failure", x.down());
        Check.same("what is not reached stays", Heaps.extents(x), "2 -7 14 -17 23 -27");
        Check.refused("what was ordered stands", DOWN, () -> x.setRoot(0, 0));
    }

    private static void recoverCounts() {
        RootedWords none = Heaps.withGaps();
        Check.same("none", Heaps.offAndRecovered(none), 0);
        RootedWords one = Heaps.withGaps();
        one.setRoot(7, 14);
        Check.same("one of three", Heaps.offAndRecovered(one), 1);
        RootedWords all = Heaps.full();
        for (int i = 0; i < 84; i++) {
            all.store(2 + 3 * i, 0, 5 + 3 * i);
        }
        all.setRoot(0, 2);
        Check.same("85, as many as can be", Heaps.offAndRecovered(all), 85);
        RootedWords pending = Heaps.of(1, 1);
        pending.setRoot(0, 2);
        pending.order(3);
        Check.refused("setRoot", DOWN, () -> pending.setRoot(1, 5));
        Check.same("with what was pending", pending.recover(), 2);
    }

    private static void noneWhenUp() {
        RootedWords x = new RootedWords();
        Check.same("a new object", x.recover(), RootedWords.NONE);
        Check.same("a new object: -1", x.recover(), -1);
        x.take(3, 0);
        Check.same("with a used extent", x.recover(), -1);
        Check.same("down: none is kept", Heaps.offAndRecovered(x), 0);
        Check.same("up again", x.recover(), -1);
    }

    private static void recoverFails() {
        for (int n = 0; n < 8; n++) {
            RootedWords x = Heaps.of(3);
            Heaps.powerOff(x);
            x.order(n);
            Check.refused("cut at " + n, DOWN, () -> x.recover());
            Check.yes("cut at " + n + ": down still", x.down());
            Check.refused("cut at " + n + ": calls", DOWN, () -> x.reached());
            Check.same("cut at " + n + ": again", x.recover(), 0);
            Check.no("cut at " + n + ": up", x.down());
        }
        RootedWords x = Heaps.of(3);
        Heaps.powerOff(x);
        x.order(8);
        Check.same("the ninth is none of its writes", x.recover(), 0);
        Check.refused("but of the next call's", DOWN, () -> x.take(1, 0));
    }

    private static void promises15And16() {
        Check.sentence("Promise 15", "How many writes took place.", BoundaryTests::writesThatTookPlace);
        Check.sentence("Promise 16", "Whether the heap is down.", BoundaryTests::whetherDown);
    }

    private static void writesThatTookPlace() {
        RootedWords x = new RootedWords();
        Check.same("at first", x.writes(), 0);
        x.take(252, 0);
        Check.same("take", x.writes(), 254 + 8);
        x.size(2, 0);
        x.order(1000);
        x.order(-1);
        x.recover();
        x.largestFree();
        Check.same("calls that make none", x.writes(), 262);
        x.order(7);
        Check.refused("give", DOWN, () -> x.give(2));
        Check.same("not the one that failed", x.writes(), 262 + 7);
        x.order(2);
        Check.refused("recovery", DOWN, () -> x.recover());
        Check.same("those of recovery, but for the one that failed", x.writes(), 269 + 2);
        x.recover();
        Check.same("those that recovery makes again", x.writes(), 271 + 3);
    }

    private static void whetherDown() {
        RootedWords x = Heaps.of(1);
        Check.no("at first", x.down());
        x.order(4);
        Check.no("ordered", x.down());
        Check.refused("setRoot", DOWN, () -> x.setRoot(0, 2));
        Check.yes("at the last write", x.down());
        Check.yes("and on", x.down());
        x.order(1);
        Check.refused("recovery", DOWN, () -> x.recover());
        Check.yes("while recovery fails", x.down());
        x.recover();
        Check.no("behind recovery", x.down());
    }
}
