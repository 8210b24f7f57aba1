/** All that can be seen of a heap, as one text. */
final class Picture {
    private Picture() {
    }

    /** Of an object that is up; takes at most 355 calls. */
    static String of(RootedWords heap) {
        StringBuilder text = new StringBuilder();
        for (int i = 0; i < 86; i++) {
            final int at = i;
            String address = Check.told(() -> heap.extent(at));
            if (address.equals("IndexOutOfBoundsException")) {
                break;
            }
            text.append(address);
            if (!address.startsWith("-")) {
                describeUsed(heap, Integer.parseInt(address), text);
            }
            text.append(' ');
        }
        text.append('|');
        for (int r = 0; r < 8; r++) {
            text.append(' ').append(heap.root(r));
        }
        text.append(" | free ").append(heap.freeWords()).append(" most ").append(heap.largestFree());
        text.append(" reached ").append(heap.reached());
        return text.toString();
    }

    private static void describeUsed(RootedWords heap, int address, StringBuilder text) {
        int words = heap.size(address, 0);
        text.append('/').append(heap.size(address, 1)).append('[');
        for (int i = 0; i < words; i++) {
            text.append(i == 0 ? "" : ",").append(heap.load(address, i));
        }
        text.append(']');
    }
}
