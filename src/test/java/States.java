import java.util.List;

/** States on which every refused call is tried: each holds something that a faulty call might spoil. */
final class States extends CheckedCalls {
    static final State NEW = new State("a new object", BreakHeap::new);
    static final State MIXED = new State("a mixed state", States::mixed);
    static final State NEARLY_FULL = new State("one word free", States::nearlyFull);
    static final State FULL_OF_UNREACHED = new State("full of unreached", States::fullOfUnreached);
    static final State FULL_OF_REACHED = new State("full of reached", States::fullOfReached);

    static final List<State> ALL = List.of(NEW, MIXED, NEARLY_FULL, FULL_OF_UNREACHED, FULL_OF_REACHED);

    private States() {
    }

    /**
     * Registers 0, 1 (and 3) and 5 refer to records of 1, 6 and 3 fields that refer to each other and
     * to themselves; 2 and 4 hold numbers. Of 21 words 8 are not reached.
     */
    private static BreakHeap mixed() {
        BreakHeap heap = new BreakHeap();
        make(heap, 4, 2);
        make(heap, 0, 1);
        make(heap, 1, 6);
        make(heap, 5, 3);
        store(heap, 0, 0, 0);
        number(heap, 4, Integer.MIN_VALUE);
        store(heap, 1, 0, 0);
        store(heap, 1, 1, 1);
        store(heap, 1, 2, 5);
        store(heap, 1, 3, 4);
        number(heap, 2, Integer.MAX_VALUE);
        store(heap, 1, 5, 2);
        store(heap, 5, 0, 2);
        store(heap, 5, 2, 1);
        move(heap, 3, 1);
        make(heap, 4, 4);
        store(heap, 4, 3, 1);
        number(heap, 4, -1);
        due("mixed state's words", heap.used(), 21);
        return heap;
    }

    /** Of 71 words, register 0 reaches 35 and register 5 reaches 7. */
    private static BreakHeap nearlyFull() {
        BreakHeap heap = new BreakHeap();
        useUnreached(heap, 1, 15);
        useReached(heap, 0, 1, 35);
        useUnreached(heap, 1, 14);
        make(heap, 5, 6);
        number(heap, 2, 6);
        number(heap, 3, -3);
        due("nearly full state's words", heap.used(), 71);
        return heap;
    }

    /** Of 72 words, register 0 reaches 18 and register 4 reaches itself, 2 words. */
    private static BreakHeap fullOfUnreached() {
        BreakHeap heap = new BreakHeap();
        for (int i = 0; i < 3; i++) {
            useUnreached(heap, 1, 16);
            chain(heap, 0, 1, 5, i);
        }
        make(heap, 4, 3);
        make(heap, 4, 1);
        store(heap, 4, 0, 4);
        number(heap, 2, 72);
        number(heap, 5, 35);
        due("full state's words", heap.used(), 72);
        return heap;
    }

    /** 36 records in a chain of which register 0 holds the head and register 3 the second. */
    private static BreakHeap fullOfReached() {
        BreakHeap heap = new BreakHeap();
        number(heap, 0, -5);
        for (int i = 0; i < 36; i++) {
            chain(heap, 0, 1, 1, 0);
        }
        load(heap, 3, 0, 0);
        number(heap, 2, 36);
        number(heap, 5, -1);
        due("full chain's words", heap.used(), 72);
        return heap;
    }
}
