/** Calls that are due to answer 0, and what else several tests build on. */
abstract class CheckedCalls {
    static final int[] WRONG_REGISTERS = {-1, 6, 7, 1 << 16, Integer.MIN_VALUE, Integer.MAX_VALUE};
    static final int[] WRONG_SIZES = {0, 7, -1, 8, 255, 1 << 16, Integer.MIN_VALUE, Integer.MAX_VALUE};

    /** Among them all numbers that a program might take for a record, a word or an empty place. */
    static final int[] NUMBERS = {
        0, 1, -1, 2, 5, 6, -6, 35, 36, 71, 72, 73, -72, 255, 1 << 16, 1 << 30, -(1 << 30),
        Integer.MIN_VALUE, Integer.MIN_VALUE + 1, Integer.MAX_VALUE - 1, Integer.MAX_VALUE,
    };

    /** No record has one of these; some would wrap around to a true place if they were scaled or added to. */
    static final int[] WRONG_FIELDS = {
        -1, -2, -6, -7, -36, 6, 7, 8, 12, 72, 1 << 16, 1 << 29, 1 << 30, -(1 << 29), -(1 << 30),
        Integer.MIN_VALUE, Integer.MIN_VALUE + 1, Integer.MAX_VALUE - 6, Integer.MAX_VALUE,
    };

    static void due(String what, long got, long want) {
        Checks.due(what, got, want);
    }

    static void make(BreakHeap heap, int dst, int fields) {
        due("make(" + dst + ", " + fields + ")", heap.make(dst, fields), 0);
    }

    static void number(BreakHeap heap, int dst, int value) {
        due("number(" + dst + ", " + value + ")", heap.number(dst, value), 0);
    }

    static void move(BreakHeap heap, int dst, int src) {
        due("move(" + dst + ", " + src + ")", heap.move(dst, src), 0);
    }

    static void store(BreakHeap heap, int target, int field, int src) {
        due("store(" + target + ", " + field + ", " + src + ")", heap.store(target, field, src), 0);
    }

    static void load(BreakHeap heap, int dst, int source, int field) {
        due("load(" + dst + ", " + source + ", " + field + ")", heap.load(dst, source, field), 0);
    }

    /** Makes a record whose given field refers to what head refers to, and lets head refer to it. */
    static void chain(BreakHeap heap, int head, int spare, int size, int field) {
        make(heap, spare, size);
        store(heap, spare, field, head);
        move(heap, head, spare);
        number(heap, spare, 0);
    }

    /** Uses so many more words (not 1), by records that the chain from head reaches. */
    static void useReached(BreakHeap heap, int head, int spare, int words) {
        for (int left = words; left > 0; ) {
            int next = nextPart(left);
            chain(heap, head, spare, next - 1, next - 2);
            left -= next;
        }
    }

    /** Uses so many more words (not 1), by records that nothing reaches. */
    static void useUnreached(BreakHeap heap, int spare, int words) {
        for (int left = words; left > 0; ) {
            int next = nextPart(left);
            make(heap, spare, next - 1);
            number(heap, spare, 0);
            left -= next;
        }
    }

    // A record has at least two words, so one word alone must not be left over.
    private static int nextPart(int left) {
        return left == 8 ? 4 : Math.min(left, 7);
    }
}
