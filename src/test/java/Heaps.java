/** Heaps that tests start from, and what they have in common. */
final class Heaps {
    /** A number that is no address in any heap, nor near one. */
    static final int[] FAR = {-1, -2, 257, 258, Integer.MIN_VALUE, Integer.MAX_VALUE};

    private static final int MOST_EXTENTS = 85;

    /** A call on a heap. */
    interface Call {
        long on(RootedWords heap);
    }

    private Heaps() {
    }

    /** A heap of used extents from word 1 on, one for each number: of so many words, all of them pointers. */
    static RootedWords of(int... words) {
        RootedWords x = new RootedWords();
        for (int each : words) {
            x.take(each, each);
        }
        return x;
    }

    /** Used: 2, 5, 8 and so on to 254, as many as there can be: 85, each of one word but the last, which has two. */
    static RootedWords full() {
        RootedWords x = new RootedWords();
        for (int i = 0; i < MOST_EXTENTS; i++) {
            x.take(1, 1);
        }
        return x;
    }

    /** Used: 2 (3 words, 2 pointers), free: 7 (5), used: 14 (1, 1), free: 17 (4), used: 23 (2, 0), free: 27 (229). */
    static RootedWords withGaps() {
        RootedWords x = new RootedWords();
        x.take(3, 2);
        x.take(5, 0);
        x.take(1, 1);
        x.take(4, 0);
        x.take(2, 0);
        x.give(7);
        x.give(17);
        return x;
    }

    /** The extents of a heap by extent(), in one text. */
    static String extents(RootedWords x) {
        StringBuilder text = new StringBuilder();
        for (int i = 0; i < MOST_EXTENTS + 1; i++) {
            int at = i;
            String address = Check.told(() -> x.extent(at));
            if (address.equals("IndexOutOfBoundsException")) {
                return text.toString();
            }
            text.append(i > 0 ? " " : "").append(address);
        }
        return text.append(" and more").toString();
    }

    /** Lets the power fail in place of the first write of a call; the heap is down then, and nothing is pending. */
    static void powerOff(RootedWords x) {
        x.order(0);
        Check.refused("the first write", IllegalStateException.class, () -> x.setRoot(0, 0));
    }

    /** What recovery answers when the power failed and nothing is pending. */
    static int offAndRecovered(RootedWords x) {
        powerOff(x);
        return x.recover();
    }
}
