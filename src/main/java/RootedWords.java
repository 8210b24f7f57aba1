import java.util.NoSuchElementException;

/**
 * A heap of 256 words, given out and taken back in extents, on a disk that may lose its power before any write.
 *
 * The first and the last word of each extent hold its tag: its length and, when it is used, its pointers. The tag at
 * the front leads to the extent behind, the one at the end to the extent before.
 */
public final class RootedWords {
    public static final int NONE = -1;

    private static final int HEAP_WORDS = 256;
    private static final int ROOT_COUNT = 8;
    private static final int FIRST_ROOT = HEAP_WORDS + 1;

    private static final int OWN_WORDS = 2;
    private static final int LEAST_LENGTH = 3;

    // A tag is LENGTH_STEP times the length, and a kind: FREE, or FIRST_USED and as much more as there are
    // pointers. These are 254 at most, so a kind is always below LENGTH_STEP.
    private static final int FREE = 0;
    private static final int FIRST_USED = 1;
    private static final int LENGTH_STEP = 256;

    // What the search from the roots marks an address with.
    private static final int UNUSED = 0;
    private static final int USED = 1;
    private static final int REACHED = 2;

    private final Disk disk = new Disk();
    // Filled anew by each listing (firsts) and by each search (marks, by address, and found): no call makes a row.
    private final int[] firsts = new int[HEAP_WORDS / LEAST_LENGTH + 1];
    private final int[] marks = new int[HEAP_WORDS + 2];
    private final int[] found = new int[HEAP_WORDS + 1];

    public RootedWords() {
        disk.preset(1, tag(HEAP_WORDS, FREE));
        disk.preset(HEAP_WORDS, tag(HEAP_WORDS, FREE));
    }

    public int take(int words, int pointers)
            throws IllegalStateException, IllegalArgumentException, UnsupportedOperationException {
        refuseWhenDown();
        if (words < 1 || words > HEAP_WORDS - OWN_WORDS) {
            throw new IllegalArgumentException("no extent can have so many words");
        }
        if (pointers < 0 || pointers > words) {
            throw new IllegalArgumentException("so many words cannot have so many pointers");
        }
        int first = lowestFree(words);
        if (first == NONE) {
            throw new UnsupportedOperationException("no free extent has so many words");
        }
        int whole = lengthAt(first);
        int rest = whole - OWN_WORDS - words;
        int length = rest >= LEAST_LENGTH ? whole - rest : whole;
        clearContent(first, length);
        planExtent(0, first, length, FIRST_USED + pointers);
        if (length < whole) {
            planExtent(1, first + length, rest, FREE);
            disk.change(4);
        } else {
            disk.change(2);
        }
        return first + 1;
    }

    public int give(int address) throws IllegalStateException, NoSuchElementException {
        refuseWhenDown();
        refuseUnlessUsed(address);
        int first = address - 1;
        int behind = first + lengthAt(first);
        if (behind <= HEAP_WORDS && isFreeAt(behind)) {
            behind += lengthAt(behind);
        }
        if (first > 1 && isFreeAt(first - 1)) {
            first -= lengthAt(first - 1);
        }
        makeFree(first, behind - first);
        return first + 1;
    }

    public int store(int address, int i, int w)
            throws IllegalStateException, NoSuchElementException, IndexOutOfBoundsException, IllegalArgumentException {
        refuseWhenDown();
        refuseUnlessUsed(address);
        refuseUnlessWord(address, i);
        if (i < pointersAt(address - 1) && w != 0 && !isUsedAddress(w)) {
            throw new IllegalArgumentException("a pointer is 0 or a used address");
        }
        int before = disk.word(address + i);
        changeWord(address + i, w);
        return before;
    }

    public int load(int address, int i)
            throws IllegalStateException, NoSuchElementException, IndexOutOfBoundsException {
        refuseWhenDown();
        refuseUnlessUsed(address);
        refuseUnlessWord(address, i);
        return disk.word(address + i);
    }

    public int size(int address, int what) throws IllegalStateException, NoSuchElementException {
        refuseWhenDown();
        refuseUnlessUsed(address);
        return what == 0 ? contentAt(address - 1) : pointersAt(address - 1);
    }

    public int setRoot(int r, int w)
            throws IllegalStateException, IndexOutOfBoundsException, NoSuchElementException {
        refuseWhenDown();
        refuseUnlessRoot(r);
        if (w != 0) {
            refuseUnlessUsed(w);
        }
        int before = usedRoot(r);
        changeWord(FIRST_ROOT + r, w);
        return before;
    }

    public int root(int r) throws IllegalStateException, IndexOutOfBoundsException {
        refuseWhenDown();
        refuseUnlessRoot(r);
        return usedRoot(r);
    }

    public int freeWords() throws IllegalStateException {
        refuseWhenDown();
        int extents = listExtents();
        int sum = 0;
        for (int i = 0; i < extents; i++) {
            if (isFreeAt(firsts[i])) {
                sum += contentAt(firsts[i]);
            }
        }
        return sum;
    }

    public int largestFree() throws IllegalStateException {
        refuseWhenDown();
        int extents = listExtents();
        int most = 0;
        for (int i = 0; i < extents; i++) {
            if (isFreeAt(firsts[i])) {
                most = Math.max(most, contentAt(firsts[i]));
            }
        }
        return most;
    }

    public int extent(int i) throws IllegalStateException, IndexOutOfBoundsException {
        refuseWhenDown();
        if (i < 0 || i >= listExtents()) {
            throw new IndexOutOfBoundsException("there is no such extent");
        }
        int address = firsts[i] + 1;
        return isFreeAt(firsts[i]) ? -address : address;
    }

    public int reached() throws IllegalStateException {
        refuseWhenDown();
        return searchFromRoots();
    }

    public boolean order(int n) {
        if (n < 0 || n > 1000) {
            return false;
        }
        disk.failAfter(n);
        return true;
    }

    public int recover() throws IllegalStateException {
        if (!disk.isDown()) {
            return NONE;
        }
        if (disk.isPending()) {
            disk.finishChange();
        }
        int kept = searchFromRoots();
        freeUnreached();
        disk.goUp();
        return kept;
    }

    public int writes() {
        return disk.writeCount();
    }

    public boolean down() {
        return disk.isDown();
    }

    private void refuseWhenDown() {
        if (disk.isDown()) {
            throw new IllegalStateException("the heap is down");
        }
    }

    private void refuseUnlessUsed(int address) {
        if (!isUsedAddress(address)) {
            throw new NoSuchElementException("no used extent has this address");
        }
    }

    private void refuseUnlessWord(int address, int i) {
        if (i < 0 || i >= contentAt(address - 1)) {
            throw new IndexOutOfBoundsException("the extent has no such word");
        }
    }

    private void refuseUnlessRoot(int r) {
        if (r < 0 || r >= ROOT_COUNT) {
            throw new IndexOutOfBoundsException("there is no such root");
        }
    }

    private static int tag(int length, int kind) {
        return length * LENGTH_STEP + kind;
    }

    private int lengthAt(int place) {
        return disk.word(place) / LENGTH_STEP;
    }

    private int kindAt(int place) {
        return disk.word(place) % LENGTH_STEP;
    }

    private boolean isFreeAt(int place) {
        return kindAt(place) == FREE;
    }

    private int contentAt(int first) {
        return lengthAt(first) - OWN_WORDS;
    }

    private int pointersAt(int first) {
        return kindAt(first) - FIRST_USED;
    }

    /** Lists where the extents begin, from the lowest on. Answers how many there are. */
    private int listExtents() {
        int extents = 0;
        // Content may look like a tag, so only the walk from the first word on tells where the tags are.
        for (int first = 1; first <= HEAP_WORDS; first += Math.max(LEAST_LENGTH, lengthAt(first))) {
            firsts[extents] = first;
            extents++;
        }
        return extents;
    }

    private boolean isUsedAddress(int address) {
        int extents = listExtents();
        for (int i = 0; i < extents; i++) {
            if (firsts[i] + 1 == address) {
                return !isFreeAt(firsts[i]);
            }
        }
        return false;
    }

    private int lowestFree(int words) {
        int extents = listExtents();
        for (int i = 0; i < extents; i++) {
            if (isFreeAt(firsts[i]) && contentAt(firsts[i]) >= words) {
                return firsts[i];
            }
        }
        return NONE;
    }

    /** A root keeps its number when its extent is given back, so that giving back stays a change of 2 words. */
    private int usedRoot(int r) {
        int address = disk.word(FIRST_ROOT + r);
        return isUsedAddress(address) ? address : 0;
    }

    private void clearContent(int first, int length) {
        // What is cleared is free still, so no note is needed: nobody sees it if the power fails.
        for (int place = first + 1; place < first + length - 1; place++) {
            disk.write(place, 0);
        }
    }

    /** Plans both tags of an extent, as the first (0) or the second (1) extent of a change. */
    private void planExtent(int which, int first, int length, int kind) {
        disk.plan(2 * which, first, tag(length, kind));
        disk.plan(2 * which + 1, first + length - 1, tag(length, kind));
    }

    private void makeFree(int first, int length) {
        planExtent(0, first, length, FREE);
        disk.change(2);
    }

    private void changeWord(int place, int word) {
        disk.plan(0, place, word);
        disk.change(1);
    }

    /** Marks by their addresses the used and the reached extents. Answers how many are reached. */
    private int searchFromRoots() {
        markUsed();
        int count = 0;
        for (int r = 0; r < ROOT_COUNT; r++) {
            count = reach(disk.word(FIRST_ROOT + r), count);
        }
        for (int k = 0; k < count && k < HEAP_WORDS; k++) {
            int address = found[k];
            int pointers = pointersAt(address - 1);
            for (int i = 0; i < pointers; i++) {
                count = reach(disk.word(address + i), count);
            }
        }
        return count;
    }

    private void markUsed() {
        for (int address = 0; address < marks.length; address++) {
            marks[address] = UNUSED;
        }
        int extents = listExtents();
        for (int i = 0; i < extents; i++) {
            if (!isFreeAt(firsts[i])) {
                marks[firsts[i] + 1] = USED;
            }
        }
    }

    /** Finds what a word leads to, when count extents are found. Answers how many are found then. */
    private int reach(int word, int count) {
        if (word < 1 || word > HEAP_WORDS || marks[word] != USED) {
            return count;
        }
        marks[word] = REACHED;
        found[count] = word;
        return count + 1;
    }

    /** Goes by the marks of the last search: what this frees was not reached, so they stay true. */
    private void freeUnreached() {
        int extents = listExtents();
        for (int i = 0; i < extents; i++) {
            if (isReachedAt(firsts[i])) {
                continue;
            }
            int start = i;
            while (i + 1 < extents && !isReachedAt(firsts[i + 1])) {
                i++;
            }
            if (i > start || !isFreeAt(firsts[i])) {
                makeFree(firsts[start], firsts[i] + lengthAt(firsts[i]) - firsts[start]);
            }
        }
    }

    private boolean isReachedAt(int first) {
        return marks[first + 1] == REACHED;
    }

    /**
     * The words that outlast the power, and the writes to them.
     *
     * Behind the heap and the roots lie the note's mark, which is how many words a valid note changes (0 when no note
     * is valid), and the note: a place and a word for each.
     */
    private static final class Disk {
        private static final int MARK = FIRST_ROOT + ROOT_COUNT;
        private static final int NOTE = MARK + 1;
        private static final int MOST_CHANGED = 4;

        private final int[] words = new int[NOTE + 2 * MOST_CHANGED];
        // What the next change is to do; not on the disk until it is noted.
        private final int[] planned = new int[2 * MOST_CHANGED];
        private int count = 0;
        private int writesUntilFailure = NONE;
        private boolean failed = false;

        int word(int place) {
            return words[place];
        }

        /** Sets a word while the disk is made, which is no write. */
        void preset(int place, int word) {
            words[place] = word;
        }

        void failAfter(int n) {
            writesUntilFailure = n;
        }

        int writeCount() {
            return count;
        }

        boolean isDown() {
            return failed;
        }

        void goUp() {
            failed = false;
        }

        boolean isPending() {
            return words[MARK] != 0;
        }

        void plan(int i, int place, int word) {
            planned[2 * i] = place;
            planned[2 * i + 1] = word;
        }

        /** Changes the first k words that are planned. */
        void change(int k) {
            for (int i = 0; i < 2 * k; i++) {
                write(NOTE + i, planned[i]);
            }
            write(MARK, k);
            finishChange();
        }

        /** Does what the valid note says. It may be done again from the start, since no word depends on another. */
        void finishChange() {
            int k = words[MARK];
            for (int i = 0; i < k; i++) {
                write(words[NOTE + 2 * i], words[NOTE + 2 * i + 1]);
            }
            write(MARK, 0);
        }

        void write(int place, int word) {
            if (writesUntilFailure == 0) {
                writesUntilFailure = NONE;
                failed = true;
                throw new IllegalStateException("the power has failed");
            }
            if (writesUntilFailure > 0) {
                writesUntilFailure--;
            }
            words[place] = word;
            count++;
        }
    }
}
