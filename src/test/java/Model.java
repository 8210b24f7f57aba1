import java.util.ArrayList;
import java.util.List;
import java.util.NoSuchElementException;

/**
 * The document once more, told without a disk: a list of pieces, and a count of the writes that each call would make.
 * The tests hold the program against it.
 */
final class Model {
    private static final class Piece {
        int start;
        int length;
        boolean used;
        int pointers;
        int[] content;

        Piece(int start, int length) {
            this.start = start;
            this.length = length;
        }
    }

    private final List<Piece> pieces = new ArrayList<>();
    private final int[] roots = new int[8];
    private int ordered = -1;
    private int writes = 0;
    private boolean down = false;
    private int pending = 0;

    Model() {
        pieces.add(new Piece(1, 256));
    }

    int take(int words, int pointers) {
        mustBeUp();
        if (words < 1 || words > 254 || pointers < 0 || pointers > words) {
            throw new IllegalArgumentException();
        }
        for (int i = 0; i < pieces.size(); i++) {
            Piece piece = pieces.get(i);
            if (!piece.used && piece.length - 2 >= words) {
                int at = i;
                boolean cut = piece.length - (words + 2) >= 3;
                int length = cut ? words + 2 : piece.length;
                change(length - 2, cut ? 4 : 2, () -> cut(at, length, pointers));
                return piece.start + 1;
            }
        }
        throw new UnsupportedOperationException();
    }

    int give(int address) {
        mustBeUp();
        int at = pieces.indexOf(used(address));
        int low = at > 0 && !pieces.get(at - 1).used ? at - 1 : at;
        int high = at + 1 < pieces.size() && !pieces.get(at + 1).used ? at + 1 : at;
        change(0, 2, () -> melt(low, high));
        return pieces.get(low).start + 1;
    }

    int store(int address, int i, int w) {
        mustBeUp();
        Piece piece = used(address);
        if (i < 0 || i >= piece.content.length) {
            throw new IndexOutOfBoundsException();
        }
        if (i < piece.pointers && w != 0 && find(w) == null) {
            throw new IllegalArgumentException();
        }
        int before = piece.content[i];
        change(0, 1, () -> piece.content[i] = w);
        return before;
    }

    int load(int address, int i) {
        mustBeUp();
        Piece piece = used(address);
        if (i < 0 || i >= piece.content.length) {
            throw new IndexOutOfBoundsException();
        }
        return piece.content[i];
    }

    int size(int address, int what) {
        mustBeUp();
        Piece piece = used(address);
        return what == 0 ? piece.content.length : piece.pointers;
    }

    int setRoot(int r, int w) {
        int before = root(r);
        if (w != 0) {
            used(w);
        }
        change(0, 1, () -> roots[r] = w);
        return before;
    }

    int root(int r) {
        mustBeUp();
        if (r < 0 || r > 7) {
            throw new IndexOutOfBoundsException();
        }
        return find(roots[r]) == null ? 0 : roots[r];
    }

    int freeWords() {
        mustBeUp();
        return pieces.stream().filter(p -> !p.used).mapToInt(p -> p.length - 2).sum();
    }

    int largestFree() {
        mustBeUp();
        return pieces.stream().filter(p -> !p.used).mapToInt(p -> p.length - 2).max().orElse(0);
    }

    int extent(int i) {
        mustBeUp();
        if (i < 0 || i >= pieces.size()) {
            throw new IndexOutOfBoundsException();
        }
        Piece piece = pieces.get(i);
        return piece.used ? piece.start + 1 : -piece.start - 1;
    }

    int reached() {
        mustBeUp();
        return led().size();
    }

    boolean order(int n) {
        if (n >= 0 && n <= 1000) {
            ordered = n;
            return true;
        }
        return false;
    }

    int recover() {
        if (!down) {
            return -1;
        }
        if (pending > 0) {
            int due = pending + 1;
            if (spend(due) < due) {
                throw new IllegalStateException();
            }
            pending = 0;
        }
        List<Piece> kept = led();
        for (int i = 0; i < pieces.size(); i++) {
            int low = i;
            int high = endOfRow(i, kept);
            if (high > low || high == low && pieces.get(low).used) {
                change(0, 2, () -> melt(low, high));
            }
        }
        down = false;
        return (int) pieces.stream().filter(p -> p.used).count();
    }

    int writes() {
        return writes;
    }

    boolean down() {
        return down;
    }

    /** The last piece of the row from here on of which none is kept; the one before when this one is kept. */
    private int endOfRow(int low, List<Piece> kept) {
        int high = low - 1;
        while (high + 1 < pieces.size() && !kept.contains(pieces.get(high + 1))) {
            high++;
        }
        return high;
    }

    private void mustBeUp() {
        if (down) {
            throw new IllegalStateException();
        }
    }

    private Piece find(int address) {
        return pieces.stream().filter(p -> p.used && p.start + 1 == address).findFirst().orElse(null);
    }

    private Piece used(int address) {
        Piece piece = find(address);
        if (piece == null) {
            throw new NoSuchElementException();
        }
        return piece;
    }

    private List<Piece> led() {
        List<Piece> led = new ArrayList<>();
        for (int root : roots) {
            follow(root, led);
        }
        return led;
    }

    private void follow(int word, List<Piece> led) {
        Piece piece = find(word);
        if (piece != null && !led.contains(piece)) {
            led.add(piece);
            for (int i = 0; i < piece.pointers; i++) {
                follow(piece.content[i], led);
            }
        }
    }

    private void cut(int at, int length, int pointers) {
        Piece piece = pieces.get(at);
        if (length < piece.length) {
            pieces.add(at + 1, new Piece(piece.start + length, piece.length - length));
        }
        piece.length = length;
        piece.used = true;
        piece.pointers = pointers;
        piece.content = new int[length - 2];
    }

    private void melt(int low, int high) {
        Piece one = new Piece(pieces.get(low).start, 0);
        for (int i = low; i <= high; i++) {
            one.length += pieces.remove(low).length;
        }
        pieces.add(low, one);
    }

    /** Makes the writes of a call: some before, and then a change of k words, which does what it is to do. */
    private void change(int before, int k, Runnable deed) {
        int all = before + 3 * k + 2;
        int done = spend(all);
        if (done > before + 2 * k) {
            deed.run();
        }
        if (done < all) {
            pending = done > before + 2 * k ? k : 0;
            throw new IllegalStateException();
        }
    }

    /** Answers how many of so many writes take place. */
    private int spend(int due) {
        int done = due;
        if (ordered >= 0 && ordered < due) {
            done = ordered;
            ordered = -1;
            down = true;
        } else if (ordered >= 0) {
            ordered -= due;
        }
        writes += done;
        return done;
    }
}
