/**
 * Records of several sizes that refer to each other, in a store of 72 words.
 *
 * Each record keeps its own row of field terms, so a record never moves and a reference stays good
 * for as long as the record is there; only the count of used words tells when the store is full.
 */
public final class BreakHeap {
    private static final int DONE = 0;
    private static final int REFUSED = -1;
    private static final int FULL = -2;
    private static final int NO_SUCH_FIELD = -3;

    private static final int NO_RECORD = -1;

    private static final int REGISTERS = 6;
    private static final int WORDS = 72;
    private static final int MOST_FIELDS = 6;

    // The smallest record takes two words, so no more records than this can be there at once.
    private static final int MOST_RECORDS = WORDS / 2;
    private static final int ALL_FIELDS = MOST_RECORDS * MOST_FIELDS;

    // A term is a long: every int stands for itself, and references begin above all ints, so that
    // two terms are the same exactly when their longs are equal.
    private static final long FIRST_REFERENCE = 1L << 32;

    private final long[] registerTerms = new long[REGISTERS];
    private final long[] fieldTerms = new long[ALL_FIELDS];

    // A record that is not there has 0 fields, which no record that is there has.
    private final int[] fieldCounts = new int[MOST_RECORDS];

    private final boolean[] reached = new boolean[MOST_RECORDS];
    private final int[] reachedInOrder = new int[MOST_RECORDS];
    private int reachedCount = 0;

    private int usedWords = 0;

    public BreakHeap() {
    }

    public int make(int dst, int fields) {
        if (!isRegister(dst) || fields < 1 || fields > MOST_FIELDS) {
            return REFUSED;
        }
        if (!hasRoomFor(fields)) {
            removeUnreached();
        }
        if (!hasRoomFor(fields)) {
            return FULL;
        }
        int record = firstUnusedRecord();
        addRecord(record, fields);
        registerTerms[dst] = FIRST_REFERENCE + record;
        return DONE;
    }

    public int number(int dst, int value) {
        if (!isRegister(dst)) {
            return REFUSED;
        }
        registerTerms[dst] = value;
        return DONE;
    }

    public int move(int dst, int src) {
        if (!isRegister(dst) || !isRegister(src)) {
            return REFUSED;
        }
        registerTerms[dst] = registerTerms[src];
        return DONE;
    }

    public int store(int target, int field, int src) {
        if (!isRegister(target) || !isRegister(src)) {
            return REFUSED;
        }
        int record = recordOf(registerTerms[target]);
        if (!hasField(record, field)) {
            return NO_SUCH_FIELD;
        }
        fieldTerms[record * MOST_FIELDS + field] = registerTerms[src];
        return DONE;
    }

    public int load(int dst, int source, int field) {
        if (!isRegister(dst) || !isRegister(source)) {
            return REFUSED;
        }
        int record = recordOf(registerTerms[source]);
        if (!hasField(record, field)) {
            return NO_SUCH_FIELD;
        }
        registerTerms[dst] = fieldTerms[record * MOST_FIELDS + field];
        return DONE;
    }

    public int collect() {
        removeUnreached();
        return usedWords;
    }

    public int fields(int register) {
        if (!isRegister(register)) {
            return REFUSED;
        }
        int record = recordOf(registerTerms[register]);
        return record == NO_RECORD ? 0 : fieldCounts[record];
    }

    public int value(int register) {
        if (!isRegister(register)) {
            return 0;
        }
        long term = registerTerms[register];
        return term >= FIRST_REFERENCE ? 0 : (int) term;
    }

    public int same(int a, int b) {
        if (!isRegister(a) || !isRegister(b)) {
            return REFUSED;
        }
        return registerTerms[a] == registerTerms[b] ? 1 : 0;
    }

    public int used() {
        return usedWords;
    }

    private static boolean isRegister(int register) {
        return register >= 0 && register < REGISTERS;
    }

    private static int recordOf(long term) {
        return term >= FIRST_REFERENCE ? (int) (term - FIRST_REFERENCE) : NO_RECORD;
    }

    private boolean hasField(int record, int field) {
        return record != NO_RECORD && field >= 0 && field < fieldCounts[record];
    }

    private boolean hasRoomFor(int fieldCount) {
        return WORDS - usedWords >= fieldCount + 1;
    }

    // The last record is not looked at: where there is room for a record, not all can be in use.
    private int firstUnusedRecord() {
        int record = 0;
        while (record < MOST_RECORDS - 1 && fieldCounts[record] > 0) {
            record++;
        }
        return record;
    }

    private void addRecord(int record, int fieldCount) {
        fieldCounts[record] = fieldCount;
        usedWords += fieldCount + 1;
        // The row may still hold the terms of a record that has been removed.
        int first = record * MOST_FIELDS;
        for (int field = 0; field < fieldCount; field++) {
            fieldTerms[first + field] = 0;
        }
    }

    private void removeUnreached() {
        forgetReached();
        reachFromRegisters();
        reachFromRecords();
        for (int record = 0; record < MOST_RECORDS; record++) {
            if (fieldCounts[record] > 0 && !reached[record]) {
                usedWords -= fieldCounts[record] + 1;
                fieldCounts[record] = 0;
            }
        }
    }

    private void forgetReached() {
        reachedCount = 0;
        for (int record = 0; record < MOST_RECORDS; record++) {
            reached[record] = false;
        }
    }

    private void reachFromRegisters() {
        for (int register = 0; register < REGISTERS; register++) {
            reach(registerTerms[register]);
        }
    }

    // reachedCount grows while this runs; each record enters the list once, so the list's length
    // bounds the loop.
    private void reachFromRecords() {
        for (int next = 0; next < MOST_RECORDS && next < reachedCount; next++) {
            int record = reachedInOrder[next];
            int first = record * MOST_FIELDS;
            int fieldCount = fieldCounts[record];
            for (int field = 0; field < fieldCount; field++) {
                reach(fieldTerms[first + field]);
            }
        }
    }

    private void reach(long term) {
        int record = recordOf(term);
        if (record == NO_RECORD || reached[record]) {
            return;
        }
        reached[record] = true;
        reachedInOrder[reachedCount] = record;
        reachedCount++;
    }
}
