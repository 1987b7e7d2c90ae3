/** At least one test for each promise of the document: ordinary inputs, edges and wrong inputs. */
public final class PromisesTest extends CheckedCalls {
    private PromisesTest() {
    }

    public static void main(String[] args) {
        newObject();
        newObjectsAreApart();
        makeGivesZeroedRecord();
        makeZeroesWordsUsedBefore();
        makeRefusesWrongInputs();
        makeRefusalDoesNotCollect();
        makeFillsTheStoreWithoutCollecting();
        makeCollectsOnlyWhenItMust();
        makeCountsTheTermInDst();
        makeAnswersFull();
        makeAfterFullStillWorks();
        makeHoldsThirtySixSmallRecords();
        makeSqueezesGapsTogether();
        numberSets();
        numberRefuses();
        moveCopies();
        moveRefuses();
        storeSets();
        storeEdges();
        storeRefusesRegistersFirst();
        loadGets();
        loadEdges();
        loadRefusesRegistersFirst();
        collectRemovesUnreached();
        collectFollowsFields();
        collectHandlesCycles();
        collectKeepsContents();
        collectTakesNoNumberForReference();
        collectIgnoresReferencesFromUnreached();
        collectReachesFromEachRegisterAndField();
        fieldsAnswers();
        valueAnswers();
        sameAnswers();
        usedAnswers();
        Checks.finish();
    }

    /** A chain of 12 records with 5 fields, 72 words, of which register 0 holds the head. */
    private static BreakHeap fullChain() {
        BreakHeap heap = new BreakHeap();
        for (int i = 0; i < 12; i++) {
            make(heap, 1, 5);
            store(heap, 1, 4, 0);
            move(heap, 0, 1);
        }
        number(heap, 1, 0);
        due("full chain used", heap.used(), 72);
        return heap;
    }

    // Promise 1

    private static void newObject() {
        BreakHeap heap = new BreakHeap();
        due("P1 used", heap.used(), 0);
        for (int register = 0; register < 6; register++) {
            due("P1 value", heap.value(register), 0);
            due("P1 fields", heap.fields(register), 0);
            due("P1 same", heap.same(register, 0), 1);
            due("P1 store", heap.store(register, 0, 0), -3);
            due("P1 load", heap.load(0, register, 0), -3);
        }
        due("P1 collect", heap.collect(), 0);
        due("P1 used after collect", heap.used(), 0);
    }

    private static void newObjectsAreApart() {
        BreakHeap one = new BreakHeap();
        make(one, 0, 6);
        number(one, 1, 5);
        BreakHeap other = new BreakHeap();
        due("P1 other used", other.used(), 0);
        due("P1 other fields", other.fields(0), 0);
        due("P1 other value", other.value(1), 0);
        due("P1 one used", one.used(), 7);
    }

    // Promise 2

    private static void makeGivesZeroedRecord() {
        for (int dst = 0; dst < 6; dst++) {
            for (int size = 1; size <= 6; size++) {
                BreakHeap heap = new BreakHeap();
                number(heap, dst, 9);
                make(heap, dst, size);
                due("P2 fields", heap.fields(dst), size);
                due("P2 used", heap.used(), size + 1);
                due("P2 value", heap.value(dst), 0);
                for (int field = 0; field < size; field++) {
                    int other = (dst + 1) % 6;
                    number(heap, other, 8);
                    load(heap, other, dst, field);
                    due("P2 field's value", heap.value(other), 0);
                    due("P2 field's fields", heap.fields(other), 0);
                }
                due("P2 field past the end", heap.load(0, dst, size), -3);
            }
        }
    }

    private static void makeZeroesWordsUsedBefore() {
        BreakHeap heap = new BreakHeap();
        number(heap, 1, 77);
        for (int i = 0; i < 10; i++) {
            make(heap, 0, 6);
            for (int field = 0; field < 6; field++) {
                store(heap, 0, field, field % 2 == 0 ? 1 : 0);
            }
        }
        number(heap, 0, 0);
        due("P2 all removed", heap.collect(), 0);
        for (int i = 0; i < 10; i++) {
            make(heap, 0, 6);
            for (int field = 0; field < 6; field++) {
                load(heap, 2, 0, field);
                due("P2 zeroed value", heap.value(2), 0);
                due("P2 zeroed fields", heap.fields(2), 0);
            }
        }
    }

    private static void makeRefusesWrongInputs() {
        BreakHeap heap = new BreakHeap();
        number(heap, 0, 4);
        for (int size : WRONG_SIZES) {
            due("P2 size " + size, heap.make(0, size), -1);
            due("P2 register and size " + size, heap.make(6, size), -1);
        }
        for (int register : WRONG_REGISTERS) {
            due("P2 register " + register, heap.make(register, 1), -1);
        }
        due("P2 used after refusals", heap.used(), 0);
        due("P2 value after refusals", heap.value(0), 4);
    }

    private static void makeRefusalDoesNotCollect() {
        BreakHeap heap = new BreakHeap();
        for (int i = 0; i < 12; i++) {
            make(heap, 0, 5);
        }
        for (int size : WRONG_SIZES) {
            due("P2 size when full", heap.make(0, size), -1);
        }
        for (int register : WRONG_REGISTERS) {
            due("P2 register when full", heap.make(register, 6), -1);
        }
        due("P2 refusals do not collect", heap.used(), 72);
        due("P2 fields kept", heap.fields(0), 5);
    }

    private static void makeFillsTheStoreWithoutCollecting() {
        BreakHeap heap = new BreakHeap();
        for (int i = 1; i <= 12; i++) {
            make(heap, 0, 5);
            due("P2 used while filling", heap.used(), 6 * i);
        }
    }

    private static void makeCollectsOnlyWhenItMust() {
        for (int size = 1; size <= 6; size++) {
            BreakHeap exact = new BreakHeap();
            leaveFree(exact, size + 1);
            make(exact, 1, size);
            due("P2 exact fit does not collect", exact.used(), 72);

            BreakHeap tight = new BreakHeap();
            leaveFree(tight, size);
            make(tight, 1, size);
            due("P2 one word short collects", tight.used(), size + 1);
        }
    }

    /** Uses all words but so many (1 to 7), by records that nothing reaches. */
    private static void leaveFree(BreakHeap heap, int free) {
        int left = 72 - free;
        for (int i = 0; i < 72 && left > 0; i++) {
            int words = left == 8 ? 4 : left > 7 ? 7 : left;
            make(heap, 0, words - 1);
            left -= words;
        }
        number(heap, 0, 0);
        due("words left free", 72 - heap.used(), free);
    }

    private static void makeCountsTheTermInDst() {
        BreakHeap heap = new BreakHeap();
        for (int i = 0; i < 12; i++) {
            make(heap, 0, 5);
        }
        make(heap, 0, 5);
        due("P2 dst's old record outlives the collecting", heap.used(), 12);
        due("P2 and goes with the next", heap.collect(), 6);

        BreakHeap chain = fullChain();
        due("P2 dst alone holds all", chain.make(0, 1), -2);
        due("P2 used", chain.used(), 72);
        due("P2 dst is kept", chain.fields(0), 5);
        load(chain, 1, 0, 4);
        due("P2 dst's field is kept", chain.fields(1), 5);
    }

    private static void makeAnswersFull() {
        BreakHeap heap = new BreakHeap();
        // Nine chained records of 7 words are reached, two of 3 and 4 words are not: 70 words.
        for (int i = 0; i < 9; i++) {
            make(heap, 1, 6);
            store(heap, 1, 5, 0);
            move(heap, 0, 1);
        }
        make(heap, 2, 2);
        make(heap, 2, 3);
        number(heap, 2, -6);
        due("P2 used before", heap.used(), 70);
        make(heap, 3, 5);
        due("P2 collected for room", heap.used(), 69);
        number(heap, 4, 12);
        due("P2 four words into three", heap.make(4, 3), -2);
        due("P2 dst unchanged", heap.value(4), 12);
        due("P2 others unchanged", heap.value(2), -6);
        due("P2 reference unchanged", heap.same(0, 1), 1);
        number(heap, 3, 0);
        due("P2 unreached stays", heap.used(), 69);
        make(heap, 4, 6);
        due("P2 collected again", heap.used(), 70);
        make(heap, 5, 1);
        number(heap, 5, 3);
        due("P2 full by an unreached record", heap.used(), 72);
        due("P2 full even so", heap.make(5, 2), -2);
        due("P2 has collected though full", heap.used(), 70);
        due("P2 dst kept", heap.value(5), 3);
    }

    private static void makeAfterFullStillWorks() {
        BreakHeap heap = fullChain();
        due("P2 full", heap.make(2, 6), -2);
        due("P2 full again", heap.make(2, 1), -2);
        load(heap, 0, 0, 4);
        make(heap, 2, 4);
        due("P2 room of the dropped head", heap.used(), 71);
        due("P2 one word is too few", heap.make(3, 1), -2);
        for (int i = 0; i < 11; i++) {
            due("P2 chain record", heap.fields(0), 5);
            load(heap, 0, 0, 4);
        }
        due("P2 chain's end", heap.fields(0), 0);
    }

    private static void makeHoldsThirtySixSmallRecords() {
        BreakHeap heap = new BreakHeap();
        for (int i = 0; i < 36; i++) {
            make(heap, 1, 1);
            store(heap, 1, 0, 0);
            move(heap, 0, 1);
        }
        due("P2 36 records", heap.used(), 72);
        due("P2 a 37th", heap.make(2, 1), -2);
        due("P2 all are reached", heap.collect(), 72);
        for (int i = 0; i < 36; i++) {
            due("P2 small record", heap.fields(0), 1);
            load(heap, 0, 0, 0);
        }
        due("P2 end of the chain", heap.fields(0), 0);
        number(heap, 1, 0);
        make(heap, 0, 6);
        due("P2 small ones gone", heap.used(), 7);
    }

    private static void makeSqueezesGapsTogether() {
        BreakHeap heap = new BreakHeap();
        // Every second record of one field is kept, so that no gap has more than two words.
        for (int i = 0; i < 18; i++) {
            make(heap, 1, 1);
            store(heap, 1, 0, 0);
            move(heap, 0, 1);
            make(heap, 2, 1);
        }
        number(heap, 2, 0);
        due("P2 full of gaps", heap.used(), 72);
        for (int i = 0; i < 5; i++) {
            make(heap, 2, 6);
            store(heap, 2, 5, 3);
            move(heap, 3, 2);
        }
        due("P2 gaps used", heap.used(), 71);
        due("P2 no more room", heap.make(4, 1), -2);
        for (int i = 0; i < 18; i++) {
            due("P2 kept record", heap.fields(0), 1);
            load(heap, 0, 0, 0);
        }
        for (int i = 0; i < 5; i++) {
            due("P2 new record", heap.fields(3), 6);
            load(heap, 3, 3, 5);
        }
    }

    // Promise 3

    private static void numberSets() {
        BreakHeap heap = new BreakHeap();
        for (int register = 0; register < 6; register++) {
            for (int number : NUMBERS) {
                number(heap, register, number);
                due("P3 value", heap.value(register), number);
                due("P3 fields", heap.fields(register), 0);
            }
            number(heap, register, 100 + register);
        }
        for (int register = 0; register < 6; register++) {
            due("P3 each its own", heap.value(register), 100 + register);
        }
        make(heap, 0, 2);
        number(heap, 0, 5);
        due("P3 in place of a reference", heap.fields(0), 0);
        due("P3 its value", heap.value(0), 5);
        due("P3 the record stays", heap.used(), 3);
        due("P3 until collected", heap.collect(), 0);
    }

    private static void numberRefuses() {
        BreakHeap heap = new BreakHeap();
        for (int register : WRONG_REGISTERS) {
            due("P3 refused", heap.number(register, 3), -1);
        }
        for (int register = 0; register < 6; register++) {
            due("P3 nothing changed", heap.value(register), 0);
        }
    }

    // Promise 4

    private static void moveCopies() {
        BreakHeap heap = new BreakHeap();
        number(heap, 0, Integer.MIN_VALUE);
        move(heap, 5, 0);
        due("P4 number", heap.value(5), Integer.MIN_VALUE);
        due("P4 source kept", heap.value(0), Integer.MIN_VALUE);
        number(heap, 0, 1);
        due("P4 a copy", heap.value(5), Integer.MIN_VALUE);
        make(heap, 0, 3);
        move(heap, 5, 0);
        due("P4 reference", heap.same(5, 0), 1);
        due("P4 no new record", heap.used(), 4);
        store(heap, 5, 1, 0);
        load(heap, 1, 0, 1);
        due("P4 one record", heap.same(1, 5), 1);
        move(heap, 0, 0);
        due("P4 to itself", heap.same(0, 5), 1);
        number(heap, 0, 0);
        number(heap, 1, 0);
        due("P4 the copy reaches", heap.collect(), 4);
    }

    private static void moveRefuses() {
        BreakHeap heap = new BreakHeap();
        number(heap, 0, 3);
        for (int register : WRONG_REGISTERS) {
            due("P4 wrong src", heap.move(0, register), -1);
            due("P4 wrong dst", heap.move(register, 0), -1);
            due("P4 both wrong", heap.move(register, register), -1);
        }
        due("P4 nothing changed", heap.value(0), 3);
        for (int register = 1; register < 6; register++) {
            due("P4 nothing changed", heap.value(register), 0);
        }
    }

    // Promise 5

    private static void storeSets() {
        BreakHeap heap = new BreakHeap();
        make(heap, 0, 6);
        make(heap, 1, 6);
        for (int field = 0; field < 6; field++) {
            number(heap, 2, 10 + field);
            store(heap, 0, field, 2);
            number(heap, 2, 20 + field);
            store(heap, 1, field, 2);
        }
        for (int field = 0; field < 6; field++) {
            load(heap, 3, 0, field);
            due("P5 first record", heap.value(3), 10 + field);
            load(heap, 3, 1, field);
            due("P5 second record", heap.value(3), 20 + field);
        }
        due("P5 source kept", heap.value(2), 25);
        due("P5 used", heap.used(), 14);
        for (int number : NUMBERS) {
            number(heap, 2, number);
            store(heap, 0, 3, 2);
            load(heap, 4, 0, 3);
            due("P5 any number", heap.value(4), number);
            due("P5 stays a number", heap.fields(4), 0);
        }
        store(heap, 0, 3, 0);
        load(heap, 4, 0, 3);
        due("P5 a record in itself", heap.same(4, 0), 1);
        store(heap, 0, 3, 2);
        load(heap, 4, 0, 3);
        due("P5 a number in place of a reference", heap.value(4), Integer.MAX_VALUE);
    }

    private static void storeEdges() {
        for (int size = 1; size <= 6; size++) {
            BreakHeap heap = new BreakHeap();
            make(heap, 0, size);
            make(heap, 1, 6);
            number(heap, 2, 50);
            int[] wrongFields = {-1, size, 6, 7, Integer.MIN_VALUE, Integer.MAX_VALUE};
            for (int field : wrongFields) {
                due("P5 no field " + field, heap.store(0, field, 2), -3);
            }
            for (int field = 0; field < 6; field++) {
                load(heap, 3, 1, field);
                due("P5 the next record unchanged", heap.value(3), 0);
            }
            for (int field = 0; field < size; field++) {
                load(heap, 3, 0, field);
                due("P5 nothing changed", heap.value(3), 0);
            }
            store(heap, 0, size - 1, 2);
            load(heap, 3, 0, size - 1);
            due("P5 the last field", heap.value(3), 50);
        }
        BreakHeap heap = new BreakHeap();
        for (int number : NUMBERS) {
            make(heap, 0, 1);
            number(heap, 1, number);
            due("P5 a number has no field", heap.store(1, 0, 0), -3);
            due("P5 and stays", heap.value(1), number);
        }
    }

    private static void storeRefusesRegistersFirst() {
        BreakHeap heap = new BreakHeap();
        make(heap, 0, 2);
        number(heap, 1, 6);
        for (int register : WRONG_REGISTERS) {
            due("P5 wrong target", heap.store(register, 0, 1), -1);
            due("P5 wrong src", heap.store(0, 0, register), -1);
            due("P5 wrong src, no such field", heap.store(0, 2, register), -1);
            due("P5 wrong src, no record", heap.store(1, 0, register), -1);
            due("P5 wrong target and field", heap.store(register, 9, 1), -1);
        }
        load(heap, 2, 0, 0);
        due("P5 nothing changed", heap.value(2), 0);
    }

    // Promise 6

    private static void loadGets() {
        BreakHeap heap = new BreakHeap();
        make(heap, 0, 2);
        make(heap, 1, 4);
        store(heap, 0, 0, 1);
        number(heap, 2, -8);
        store(heap, 0, 1, 2);
        for (int dst = 2; dst < 6; dst++) {
            load(heap, dst, 0, 0);
            due("P6 reference", heap.same(dst, 1), 1);
            load(heap, dst, 0, 1);
            due("P6 number", heap.value(dst), -8);
        }
        load(heap, 3, 0, 0);
        due("P6 the field is kept", heap.same(3, 1), 1);
        number(heap, 3, 1);
        load(heap, 4, 0, 0);
        due("P6 a copy", heap.same(4, 1), 1);
        load(heap, 0, 0, 0);
        due("P6 into its own source", heap.same(0, 1), 1);
        due("P6 the old source stays", heap.used(), 8);
        due("P6 until collected", heap.collect(), 5);
    }

    private static void loadEdges() {
        for (int size = 1; size <= 6; size++) {
            BreakHeap heap = new BreakHeap();
            make(heap, 0, size);
            number(heap, 1, 31);
            int[] wrongFields = {-1, size, 6, 7, Integer.MIN_VALUE, Integer.MAX_VALUE};
            for (int field : wrongFields) {
                due("P6 no field " + field, heap.load(1, 0, field), -3);
                due("P6 nothing changed", heap.value(1), 31);
                due("P6 no field, own source", heap.load(0, 0, field), -3);
                due("P6 source kept", heap.fields(0), size);
            }
        }
        BreakHeap heap = new BreakHeap();
        for (int number : NUMBERS) {
            make(heap, 0, 1);
            number(heap, 1, number);
            due("P6 a number has no field", heap.load(0, 1, 0), -3);
            due("P6 dst kept", heap.fields(0), 1);
            due("P6 source kept", heap.value(1), number);
        }
    }

    private static void loadRefusesRegistersFirst() {
        BreakHeap heap = new BreakHeap();
        make(heap, 0, 2);
        number(heap, 1, 6);
        for (int register : WRONG_REGISTERS) {
            due("P6 wrong dst", heap.load(register, 0, 0), -1);
            due("P6 wrong source", heap.load(1, register, 0), -1);
            due("P6 wrong dst, no such field", heap.load(register, 0, 2), -1);
            due("P6 wrong dst, no record", heap.load(register, 1, 0), -1);
            due("P6 wrong source and field", heap.load(1, register, -1), -1);
        }
        due("P6 nothing changed", heap.value(1), 6);
        due("P6 record kept", heap.fields(0), 2);
    }

    // Promise 7

    private static void collectRemovesUnreached() {
        BreakHeap heap = new BreakHeap();
        due("P7 empty", heap.collect(), 0);
        make(heap, 0, 1);
        make(heap, 0, 2);
        make(heap, 1, 3);
        due("P7 one unreached", heap.collect(), 7);
        due("P7 again", heap.collect(), 7);
        number(heap, 1, 0);
        due("P7 now two", heap.collect(), 3);
        number(heap, 0, 0);
        due("P7 now all", heap.collect(), 0);
        due("P7 used", heap.used(), 0);
    }

    private static void collectFollowsFields() {
        BreakHeap heap = fullChain();
        int left = 72;
        for (int i = 0; i < 12; i++) {
            due("P7 chain", heap.collect(), left);
            load(heap, 0, 0, 4);
            left -= 6;
        }
        due("P7 chain's end", heap.collect(), 0);
    }

    private static void collectHandlesCycles() {
        BreakHeap heap = new BreakHeap();
        make(heap, 0, 1);
        store(heap, 0, 0, 0);
        due("P7 reached self-reference", heap.collect(), 2);
        number(heap, 0, 0);
        due("P7 unreached self-reference", heap.collect(), 0);
        make(heap, 0, 2);
        make(heap, 1, 3);
        store(heap, 0, 1, 1);
        store(heap, 1, 2, 0);
        number(heap, 0, 0);
        due("P7 reached cycle", heap.collect(), 7);
        load(heap, 2, 1, 2);
        due("P7 cycle's other record", heap.fields(2), 2);
        number(heap, 1, 0);
        number(heap, 2, 0);
        due("P7 unreached cycle", heap.collect(), 0);
    }

    private static void collectKeepsContents() {
        BreakHeap heap = new BreakHeap();
        make(heap, 5, 6);
        make(heap, 0, 3);
        make(heap, 5, 6);
        make(heap, 1, 2);
        make(heap, 5, 4);
        number(heap, 5, -7);
        store(heap, 0, 0, 5);
        store(heap, 0, 1, 1);
        store(heap, 0, 2, 0);
        store(heap, 1, 0, 0);
        due("P7 words kept", heap.collect(), 7);
        due("P7 number kept", heap.value(5), -7);
        due("P7 size kept", heap.fields(0), 3);
        due("P7 size kept", heap.fields(1), 2);
        due("P7 still two records", heap.same(0, 1), 0);
        load(heap, 2, 0, 0);
        due("P7 field's number", heap.value(2), -7);
        load(heap, 2, 0, 1);
        due("P7 field's reference", heap.same(2, 1), 1);
        load(heap, 2, 0, 2);
        due("P7 field's own record", heap.same(2, 0), 1);
        load(heap, 2, 1, 0);
        due("P7 back reference", heap.same(2, 0), 1);
        load(heap, 2, 1, 1);
        due("P7 untouched field", heap.value(2), 0);
    }

    private static void collectTakesNoNumberForReference() {
        for (int number = -80; number <= 80; number++) {
            BreakHeap heap = new BreakHeap();
            make(heap, 0, 2);
            make(heap, 1, 1);
            number(heap, 2, number);
            store(heap, 0, 1, 2);
            number(heap, 1, number);
            due("P7 number " + number, heap.collect(), 3);
            number(heap, 0, number);
            due("P7 number " + number, heap.collect(), 0);
        }
    }

    private static void collectIgnoresReferencesFromUnreached() {
        BreakHeap heap = new BreakHeap();
        make(heap, 0, 1);
        make(heap, 1, 2);
        store(heap, 1, 0, 0);
        number(heap, 1, 0);
        due("P7 the referring one goes", heap.collect(), 2);
        make(heap, 1, 2);
        store(heap, 1, 0, 0);
        number(heap, 0, 0);
        number(heap, 1, 0);
        due("P7 both go", heap.collect(), 0);
        make(heap, 0, 1);
        make(heap, 1, 5);
        store(heap, 0, 0, 1);
        number(heap, 1, 0);
        due("P7 reached by a field", heap.collect(), 8);
        store(heap, 0, 0, 1);
        due("P7 stays when the field changes", heap.used(), 8);
        due("P7 no longer reached", heap.collect(), 2);
    }

    private static void collectReachesFromEachRegisterAndField() {
        for (int register = 0; register < 6; register++) {
            for (int field = 0; field < 6; field++) {
                BreakHeap heap = new BreakHeap();
                int other = (register + 1) % 6;
                make(heap, register, 6);
                make(heap, other, 3);
                store(heap, register, field, other);
                number(heap, other, 0);
                due("P7 by register and field", heap.collect(), 11);
            }
        }
    }

    // Promise 8

    private static void fieldsAnswers() {
        BreakHeap heap = new BreakHeap();
        for (int size = 1; size <= 6; size++) {
            make(heap, size - 1, size);
        }
        for (int size = 1; size <= 6; size++) {
            due("P8 size", heap.fields(size - 1), size);
        }
        for (int number : NUMBERS) {
            number(heap, 3, number);
            due("P8 number", heap.fields(3), 0);
        }
        for (int register : WRONG_REGISTERS) {
            due("P8 refused", heap.fields(register), -1);
        }
    }

    // Promise 9

    private static void valueAnswers() {
        BreakHeap heap = new BreakHeap();
        number(heap, 1, 17);
        for (int i = 0; i < 6; i++) {
            make(heap, 0, 1);
            store(heap, 0, 0, 1);
            due("P9 reference", heap.value(0), 0);
        }
        for (int number : NUMBERS) {
            number(heap, 0, number);
            due("P9 number", heap.value(0), number);
        }
        for (int register : WRONG_REGISTERS) {
            due("P9 refused", heap.value(register), 0);
        }
    }

    // Promise 10

    private static void sameAnswers() {
        for (int first : NUMBERS) {
            BreakHeap numbers = new BreakHeap();
            number(numbers, 0, first);
            for (int second : NUMBERS) {
                number(numbers, 1, second);
                due("P10 numbers", numbers.same(0, 1), first == second ? 1 : 0);
            }
        }
        BreakHeap heap = new BreakHeap();
        make(heap, 2, 2);
        make(heap, 3, 2);
        move(heap, 4, 2);
        due("P10 same record", heap.same(2, 4), 1);
        due("P10 same register", heap.same(2, 2), 1);
        due("P10 alike records", heap.same(2, 3), 0);
        due("P10 alike records", heap.same(3, 2), 0);
        for (int register : WRONG_REGISTERS) {
            due("P10 wrong a", heap.same(register, 0), -1);
            due("P10 wrong b", heap.same(0, register), -1);
            due("P10 both wrong", heap.same(register, register), -1);
        }
        for (int number = -80; number <= 80; number++) {
            BreakHeap mixed = new BreakHeap();
            make(mixed, 0, 1);
            number(mixed, 1, number);
            due("P10 reference and number " + number, mixed.same(0, 1), 0);
            due("P10 number and reference " + number, mixed.same(1, 0), 0);
        }
    }

    // Promise 11

    private static void usedAnswers() {
        BreakHeap heap = new BreakHeap();
        int words = 0;
        for (int size = 1; size <= 6; size++) {
            make(heap, 0, size);
            words += size + 1;
            due("P11 reached or not", heap.used(), words);
        }
        number(heap, 1, 2);
        move(heap, 2, 0);
        store(heap, 0, 0, 0);
        load(heap, 3, 0, 1);
        due("P11 P8", heap.fields(0), 6);
        due("P11 P9", heap.value(0), 0);
        due("P11 P10", heap.same(0, 2), 1);
        due("P11 other calls change nothing", heap.used(), words);
        due("P11 asked again", heap.used(), words);
        due("P11 collected", heap.collect(), 7);
        due("P11 after collecting", heap.used(), 7);
    }
}
