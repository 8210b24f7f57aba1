/** An object and the model of it, given the same calls; each call's answers are held together. */
final class Twin {
    enum Kind {
        TAKE, GIVE, STORE, LOAD, SIZE, SET_ROOT, ROOT, FREE_WORDS, LARGEST_FREE, EXTENT, REACHED, ORDER, RECOVER,
        WRITES, DOWN
    }

    private static final int MOST_CALLS = 512;

    private final RootedWords heap = new RootedWords();
    private final Model model = new Model();
    private final StringBuilder story = new StringBuilder();
    private int calls = 0;

    boolean isDown() {
        return model.down();
    }

    /** By the model, so that it is no call: the address of an extent, or 0 when there is no such extent. */
    int addressOf(int extent) {
        String address = Check.told(() -> model.extent(extent));
        return address.startsWith("I") ? 0 : Math.abs(Integer.parseInt(address));
    }

    /** Gives both the same call. Answers whether their answers were the same. */
    boolean call(Kind kind, int a, int b, int c) {
        calls++;
        Check.no("a run of more than 512 calls", calls > MOST_CALLS);
        story.append(kind).append('(').append(a).append(' ').append(b).append(' ').append(c).append(") ");
        String got = Check.told(() -> ask(kind, a, b, c));
        String due = Check.told(() -> askModel(kind, a, b, c));
        if (!got.equals(due)) {
            Check.same(story.toString(), got, due);
        }
        return got.equals(due);
    }

    /** Looks at everything that the object lets be seen; takes at most 357 calls. */
    boolean lookAtAll() {
        boolean same = call(Kind.WRITES, 0, 0, 0) && call(Kind.DOWN, 0, 0, 0);
        boolean more = !model.down();
        for (int i = 0; same && more; i++) {
            same = call(Kind.EXTENT, i, 0, 0);
            more = addressOf(i) != 0;
            if (same && more && model.extent(i) > 0) {
                same = lookAtUsed(model.extent(i));
            }
        }
        for (int r = 0; r < 8; r++) {
            same = same && call(Kind.ROOT, r, 0, 0);
        }
        return same && call(Kind.FREE_WORDS, 0, 0, 0) && call(Kind.LARGEST_FREE, 0, 0, 0)
                && call(Kind.REACHED, 0, 0, 0);
    }

    private boolean lookAtUsed(int address) {
        boolean same = call(Kind.SIZE, address, 0, 0) && call(Kind.SIZE, address, 1, 0);
        int words = model.size(address, 0);
        for (int i = 0; i < words; i++) {
            same = same && call(Kind.LOAD, address, i, 0);
        }
        return same;
    }

    private long ask(Kind kind, int a, int b, int c) {
        switch (kind) {
            case TAKE: return heap.take(a, b);
            case GIVE: return heap.give(a);
            case STORE: return heap.store(a, b, c);
            case LOAD: return heap.load(a, b);
            case SIZE: return heap.size(a, b);
            case SET_ROOT: return heap.setRoot(a, b);
            case ROOT: return heap.root(a);
            case FREE_WORDS: return heap.freeWords();
            case LARGEST_FREE: return heap.largestFree();
            case EXTENT: return heap.extent(a);
            case REACHED: return heap.reached();
            case ORDER: return heap.order(a) ? 1 : 0;
            case RECOVER: return heap.recover();
            case WRITES: return heap.writes();
            default: return heap.down() ? 1 : 0;
        }
    }

    private long askModel(Kind kind, int a, int b, int c) {
        switch (kind) {
            case TAKE: return model.take(a, b);
            case GIVE: return model.give(a);
            case STORE: return model.store(a, b, c);
            case LOAD: return model.load(a, b);
            case SIZE: return model.size(a, b);
            case SET_ROOT: return model.setRoot(a, b);
            case ROOT: return model.root(a);
            case FREE_WORDS: return model.freeWords();
            case LARGEST_FREE: return model.largestFree();
            case EXTENT: return model.extent(a);
            case REACHED: return model.reached();
            case ORDER: return model.order(a) ? 1 : 0;
            case RECOVER: return model.recover();
            case WRITES: return model.writes();
            default: return model.down() ? 1 : 0;
        }
    }
}
