import java.util.ArrayList;
import java.util.List;

/** A test for each sentence of promises 1 to 11 that names a boundary case. */
public final class PromiseBoundaryTest extends CheckedCalls {
    private PromiseBoundaryTest() {
    }

    public static void main(String[] args) {
        newRegistersHoldZero();
        newObjectHasNoRecord();
        makeHoldsZeroInEveryField();
        makeHoldsZeroWhereOthersWere();
        makeSetsDst();
        makeRefusesSizes();
        makeCollectsWhereWordsAreFewer();
        makeCollectsWithTheTermInDst();
        makeAnswersFullWithTheTermInDst();
        makeAnswersFullWhereStillFewer();
        makeChangesNothingElseWhereFull();
        makeAnswersZeroOtherwise();
        numberTakesEveryInt();
        numberRefuses();
        moveToItselfAndOthers();
        moveRefuses();
        storeAtFirstAndLastField();
        storeRefuses();
        storeWithoutReference();
        storeWithoutSuchField();
        loadAtFirstAndLastField();
        loadRefuses();
        loadWithoutReference();
        loadWithoutSuchField();
        collectEmptyAndFull();
        fieldsOfSmallestAndLargest();
        fieldsOfNumbers();
        fieldsRefuses();
        valueOfEveryNumber();
        valueOfReferences();
        valueRefuses();
        sameNumbers();
        sameReferences();
        sameNumberAndReference();
        sameRefuses();
        usedEmptyAndFull();
        questionsChangeNothing();
        Checks.finish();
    }

    private static void keptInAllStates(List<Call> calls) {
        for (State state : States.ALL) {
            state.keptByAll(calls);
        }
    }

    // Promise 1: "All registers hold the number 0"

    private static void newRegistersHoldZero() {
        for (int register = 0; register < 6; register++) {
            BreakHeap heap = new BreakHeap();
            due("P1 value", heap.value(register), 0);
            due("P1 fields", heap.fields(register), 0);
            due("P1 no reference to store in", heap.store(register, 0, register), -3);
            due("P1 no reference to load from", heap.load(register, register, 0), -3);
            number(heap, (register + 1) % 6, 0);
            due("P1 the number 0", heap.same(register, (register + 1) % 6), 1);
        }
    }

    // Promise 1: "no record is there"

    private static void newObjectHasNoRecord() {
        BreakHeap other = States.FULL_OF_REACHED.build();
        BreakHeap heap = new BreakHeap();
        due("P1 used", heap.used(), 0);
        due("P1 collect", heap.collect(), 0);
        due("P1 used after collecting", heap.used(), 0);
        useReached(heap, 0, 1, 72);
        due("P1 all 72 words are free", heap.used(), 72);
        due("P1 an object made before has its own", other.used(), 72);
        due("P1 a second object is new", new BreakHeap().used(), 0);
    }

    // Promise 2: "Makes a record with fields fields, all of which hold the number 0"

    private static void makeHoldsZeroInEveryField() {
        for (int size = 1; size <= 6; size++) {
            BreakHeap heap = new BreakHeap();
            make(heap, 0, size);
            dueZeroFields("P2 a new record of " + size, heap, 0, size);
        }
    }

    private static void dueZeroFields(String what, BreakHeap heap, int register, int size) {
        due(what, heap.fields(register), size);
        int other = (register + 1) % 6;
        for (int field = 0; field < size; field++) {
            number(heap, other, 8);
            load(heap, other, register, field);
            due(what + ": field " + field, heap.value(other), 0);
            due(what + ": field " + field + " holds no reference", heap.fields(other), 0);
        }
        due(what + ": no field more", heap.load(other, register, size), -3);
    }

    private static void makeHoldsZeroWhereOthersWere() {
        for (int before = 1; before <= 6; before++) {
            for (int size = 1; size <= 6; size++) {
                BreakHeap heap = new BreakHeap();
                // The store is filled with records full of numbers and references, then runs over.
                for (int i = 0; i < 72 / (before + 1); i++) {
                    make(heap, 0, before);
                    number(heap, 1, 66);
                    for (int field = 0; field < before; field++) {
                        store(heap, 0, field, (i + field) % 2);
                    }
                }
                number(heap, 0, 0);
                for (int i = 0; i < 8; i++) {
                    make(heap, 0, size);
                    dueZeroFields("P2 a record of " + size + " over ones of " + before, heap, 0, size);
                }
            }
        }
    }

    // Promise 2: "the register dst becomes a reference to it"

    private static void makeSetsDst() {
        for (int dst = 0; dst < 6; dst++) {
            BreakHeap heap = new BreakHeap();
            for (int register = 0; register < 6; register++) {
                number(heap, register, 10 + register);
            }
            make(heap, dst, 1);
            for (int register = 0; register < 6; register++) {
                due("P2 dst " + dst + ": fields", heap.fields(register), register == dst ? 1 : 0);
                due("P2 dst " + dst + ": value", heap.value(register), register == dst ? 0 : 10 + register);
            }
            int other = (dst + 1) % 6;
            move(heap, other, dst);
            make(heap, dst, 1);
            due("P2 a new record each time", heap.same(dst, other), 0);
            due("P2 the old one stays", heap.used(), 4);
        }
    }

    // Promise 2: "Answers -1 and changes nothing if fields is not from 1 to 6."

    private static void makeRefusesSizes() {
        List<Call> calls = new ArrayList<>();
        for (int size : WRONG_SIZES) {
            for (int dst = 0; dst < 6; dst++) {
                calls.add(Call.make(dst, size, -1));
            }
        }
        keptInAllStates(calls);
    }

    // Promise 2: "If there are fewer than fields + 1 words that are not used, it collects first"

    private static void makeCollectsWhereWordsAreFewer() {
        for (int size = 1; size <= 6; size++) {
            for (int free = 0; free <= 9; free++) {
                BreakHeap heap = new BreakHeap();
                useReached(heap, 0, 1, 20);
                useUnreached(heap, 1, 52 - free);
                due("P2 words free", 72 - heap.used(), free);
                make(heap, 1, size);
                int kept = free < size + 1 ? 20 : 72 - free;
                due("P2 " + free + " words free for " + (size + 1), heap.used(), kept + size + 1);
                due("P2 the new record is there", heap.fields(1), size);
            }
        }
    }

    // Promise 2: "(the term in dst still counts)"

    private static void makeCollectsWithTheTermInDst() {
        for (int dst = 0; dst < 6; dst++) {
            int spare = (dst + 1) % 6;
            for (int length = 1; length <= 9; length++) {
                BreakHeap heap = new BreakHeap();
                useReached(heap, dst, spare, 7 * length);
                useUnreached(heap, spare, 72 - 7 * length);
                make(heap, dst, 6);
                due("P2 what dst reached is kept", heap.used(), 7 * length + 7);
                due("P2 dst is the new record", heap.fields(dst), 6);
                due("P2 and goes with the next collecting", heap.collect(), 7);
            }
        }
    }

    private static void makeAnswersFullWithTheTermInDst() {
        for (int dst = 0; dst < 6; dst++) {
            for (int size = 1; size <= 6; size++) {
                int holder = dst;
                int free = size;
                State state = new State("P2 register " + dst + " holds all", () -> heldByOne(holder, free));
                Call full = Call.make(dst, size, -2);
                dueLikeCollecting(state, full, 72 - free);
                BreakHeap heap = state.after(full).build();
                number(heap, dst, 0);
                due("P2 room once dst lets go", heap.make(dst, size), 0);
                due("P2 all that dst reached is gone", heap.used(), size + 1);
            }
        }
    }

    /** One register alone reaches all words but so many (1 to 6), which an unreached record takes if it can. */
    private static BreakHeap heldByOne(int holder, int free) {
        BreakHeap heap = new BreakHeap();
        int spare = (holder + 1) % 6;
        useReached(heap, holder, spare, 72 - free);
        useUnreached(heap, spare, free == 1 ? 0 : free);
        return heap;
    }

    // Promise 2: "if there still are fewer, it answers -2"

    private static void makeAnswersFullWhereStillFewer() {
        for (int size = 1; size <= 6; size++) {
            for (int free = 0; free <= 9; free++) {
                BreakHeap heap = new BreakHeap();
                useReached(heap, 0, 1, 72 - free);
                boolean fits = free >= size + 1;
                due("P2 " + free + " words for " + (size + 1), heap.make(1, size), fits ? 0 : -2);
                due("P2 used then", heap.used(), 72 - free + (fits ? size + 1 : 0));
                due("P2 dst then", heap.fields(1), fits ? size : 0);
            }
        }
    }

    // Promise 2: "and nothing else is changed but that it has collected"

    private static void makeChangesNothingElseWhereFull() {
        for (int reached = 66; reached <= 72; reached++) {
            int words = reached;
            String name = "P2 " + words + " words reached";
            State allReached = new State(name, () -> filled(words, 0));
            State someUnreached = new State(name + ", the others not", () -> filled(words, 72 - words));
            for (int size = Math.max(1, 72 - words); size <= 6; size++) {
                for (int dst = 0; dst < 6; dst++) {
                    Call full = Call.make(dst, size, -2);
                    dueLikeCollecting(allReached, full, words);
                    // One word alone is too few for an unreached record.
                    if (words != 71) {
                        dueLikeCollecting(someUnreached, full, words);
                    }
                }
            }
        }
    }

    private static void dueLikeCollecting(State state, Call full, int reached) {
        full.on(state.name(), state.build());
        List<Integer> collected = state.after(Call.collect(reached)).seen();
        Checks.holds(state.name() + ": " + full.text() + " only collects", state.after(full).seen().equals(collected));
        due(state.name() + ": used after " + full.text(), state.after(full).build().used(), reached);
    }

    /** Two chains reach so many words; the registers besides hold numbers and a second reference. */
    private static BreakHeap filled(int reached, int unreached) {
        BreakHeap heap = new BreakHeap();
        useReached(heap, 0, 1, 30);
        useUnreached(heap, 1, unreached);
        useReached(heap, 2, 1, reached - 30);
        move(heap, 3, 2);
        number(heap, 1, 5);
        number(heap, 4, Integer.MIN_VALUE);
        number(heap, 5, -2);
        due("words filled", heap.used(), reached + unreached);
        return heap;
    }

    // Promise 2: "Otherwise answers 0."

    private static void makeAnswersZeroOtherwise() {
        for (int size = 1; size <= 6; size++) {
            due("P2 in a new object", new BreakHeap().make(0, size), 0);
            due("P2 in a mixed state", States.MIXED.build().make(5, size), 0);
            due("P2 after collecting", States.FULL_OF_UNREACHED.build().make(5, size), 0);
            due("P2 after collecting", States.NEARLY_FULL.build().make(5, size), 0);
            BreakHeap exact = new BreakHeap();
            useReached(exact, 0, 1, 71 - size);
            due("P2 into the last words", exact.make(1, size), 0);
            due("P2 all words used", exact.used(), 72);
            BreakHeap afterCollecting = new BreakHeap();
            useReached(afterCollecting, 0, 1, 71 - size);
            useUnreached(afterCollecting, 1, size + 1);
            due("P2 into the last words that collecting gives", afterCollecting.make(1, size), 0);
            due("P2 all words used", afterCollecting.collect(), 72);
        }
    }

    // Promise 3: "The register dst becomes the number value."

    private static void numberTakesEveryInt() {
        for (int dst = 0; dst < 6; dst++) {
            for (int number : NUMBERS) {
                BreakHeap heap = States.MIXED.build();
                List<Integer> before = othersThan(dst, heap);
                number(heap, dst, number);
                due("P3 value", heap.value(dst), number);
                due("P3 no reference", heap.fields(dst), 0);
                due("P3 no record goes", heap.used(), 21);
                Checks.holds("P3 no other register is changed", othersThan(dst, heap).equals(before));
            }
        }
    }

    private static List<Integer> othersThan(int dst, BreakHeap heap) {
        List<Integer> answers = new ArrayList<>();
        for (int a = 0; a < 6; a++) {
            for (int b = 0; b < 6; b++) {
                if (a != dst && b != dst) {
                    answers.addAll(List.of(heap.value(a), heap.fields(a), heap.same(a, b)));
                }
            }
        }
        return answers;
    }

    // Promise 3: "Answers 0 or -1."

    private static void numberRefuses() {
        List<Call> calls = new ArrayList<>();
        for (int wrong : WRONG_REGISTERS) {
            for (int number : NUMBERS) {
                calls.add(Call.number(wrong, number, -1));
            }
        }
        keptInAllStates(calls);
    }

    // Promise 4: "The register dst becomes what the register src is."

    private static void moveToItselfAndOthers() {
        List<Call> toItself = new ArrayList<>();
        for (int dst = 0; dst < 6; dst++) {
            toItself.add(Call.move(dst, dst, 0));
            for (int src = 0; src < 6; src++) {
                BreakHeap heap = States.MIXED.build();
                int value = heap.value(src);
                int size = heap.fields(src);
                List<Integer> before = othersThan(dst, heap);
                move(heap, dst, src);
                due("P4 value", heap.value(dst), value);
                due("P4 fields", heap.fields(dst), size);
                due("P4 the same term", heap.same(dst, src), 1);
                due("P4 no record more or less", heap.used(), 21);
                Checks.holds("P4 no other register is changed", othersThan(dst, heap).equals(before));
            }
        }
        keptInAllStates(toItself);
    }

    // Promise 4: "Answers 0 or -1."

    private static void moveRefuses() {
        List<Call> calls = new ArrayList<>();
        for (int wrong : WRONG_REGISTERS) {
            for (int right = 0; right < 6; right++) {
                calls.add(Call.move(wrong, right, -1));
                calls.add(Call.move(right, wrong, -1));
            }
            for (int other : WRONG_REGISTERS) {
                calls.add(Call.move(wrong, other, -1));
            }
        }
        keptInAllStates(calls);
    }

    // Promise 5: "The field of the record that the register target refers to becomes what the register src is."

    private static void storeAtFirstAndLastField() {
        for (int size = 1; size <= 6; size++) {
            for (int field : new int[] {0, size - 1}) {
                String what = "P5 field " + field + " of " + size;
                // Records stand before and after the one that is changed.
                BreakHeap heap = new BreakHeap();
                make(heap, 0, 6);
                make(heap, 1, size);
                make(heap, 2, 6);
                number(heap, 3, Integer.MIN_VALUE);
                store(heap, 1, field, 3);
                load(heap, 4, 1, field);
                due(what + ": a number", heap.value(4), Integer.MIN_VALUE);
                store(heap, 1, field, 2);
                load(heap, 4, 1, field);
                due(what + ": a reference", heap.same(4, 2), 1);
                store(heap, 1, field, 1);
                load(heap, 4, 1, field);
                due(what + ": target itself", heap.same(4, 1), 1);
                due(what + ": target is kept", heap.fields(1), size);
                for (int other = 0; other < size; other++) {
                    load(heap, 4, 1, other);
                    due(what + ": other fields", heap.fields(4), other == field ? size : 0);
                }
                dueZeroFields(what + ": the record before", heap, 0, 6);
                dueZeroFields(what + ": the record after", heap, 2, 6);
            }
        }
    }

    // Promise 5: "Answers 0; -1;"

    private static void storeRefuses() {
        List<Call> calls = new ArrayList<>();
        for (int wrong : WRONG_REGISTERS) {
            for (int right = 0; right < 6; right++) {
                for (int field = -1; field <= 6; field++) {
                    calls.add(Call.store(wrong, field, right, -1));
                    calls.add(Call.store(right, field, wrong, -1));
                }
            }
            for (int other : WRONG_REGISTERS) {
                calls.add(Call.store(wrong, 0, other, -1));
            }
        }
        States.NEW.keptByAll(calls);
        States.MIXED.keptByAll(calls);
    }

    // Promise 5: "or -3, and changes nothing, if target holds no reference"

    private static void storeWithoutReference() {
        List<Call> calls = new ArrayList<>();
        for (int src = 0; src < 6; src++) {
            for (int field = 0; field < 6; field++) {
                calls.add(Call.store(2, field, src, -3));
            }
            for (int field : WRONG_FIELDS) {
                calls.add(Call.store(2, field, src, -3));
            }
        }
        // Register 2 holds a number in each of the states.
        keptInAllStates(calls);
        for (int number : NUMBERS) {
            BreakHeap heap = States.FULL_OF_REACHED.build();
            number(heap, 4, number);
            due("P5 into the number " + number, heap.store(4, 0, 2), -3);
            due("P5 which stays", heap.value(4), number);
            for (int i = 0; i < 36; i++) {
                due("P5 no record is changed", heap.fields(0), 1);
                load(heap, 0, 0, 0);
            }
            due("P5 the last field is kept", heap.value(0), -5);
        }
    }

    // Promise 5: "or the record has no such field"

    private static void storeWithoutSuchField() {
        for (int size = 1; size <= 6; size++) {
            State state = amongOthers(size);
            List<Call> calls = new ArrayList<>();
            for (int field : fieldsNotOf(size)) {
                for (int src = 0; src < 6; src++) {
                    calls.add(Call.store(1, field, src, -3));
                }
            }
            state.keptByAll(calls);
        }
    }

    /** Register 1 refers to a record of the size; the ones made before and after it hold terms of all kinds. */
    private static State amongOthers(int size) {
        return new State("a record of " + size + " among others", () -> {
            BreakHeap heap = new BreakHeap();
            make(heap, 0, 6);
            make(heap, 1, size);
            make(heap, 2, 6);
            number(heap, 3, 70);
            number(heap, 4, -70);
            for (int field = 0; field < 6; field++) {
                store(heap, 0, field, field % 5);
                store(heap, 2, field, 4 - field % 5);
            }
            for (int field = 0; field < size; field++) {
                store(heap, 1, field, field % 5);
            }
            return heap;
        });
    }

    private static List<Integer> fieldsNotOf(int size) {
        List<Integer> fields = new ArrayList<>();
        for (int field = size; field < 6; field++) {
            fields.add(field);
        }
        for (int field : WRONG_FIELDS) {
            fields.add(field);
        }
        return fields;
    }

    // Promise 6: "The register dst becomes what the field of the record is that the register source refers to."

    private static void loadAtFirstAndLastField() {
        for (int size = 1; size <= 6; size++) {
            for (int field : new int[] {0, size - 1}) {
                for (int dst = 0; dst < 6; dst++) {
                    loadBothTerms("P6 field " + field + " of " + size + " into " + dst, size, field, dst);
                }
            }
        }
    }

    private static void loadBothTerms(String what, int size, int field, int dst) {
        BreakHeap heap = new BreakHeap();
        make(heap, 1, size);
        number(heap, 2, Integer.MIN_VALUE);
        store(heap, 1, field, 2);
        move(heap, 3, 1);
        load(heap, dst, 1, field);
        due(what + ": a number", heap.value(dst), Integer.MIN_VALUE);
        due(what + ": no reference", heap.fields(dst), 0);

        BreakHeap other = new BreakHeap();
        make(other, 1, size);
        make(other, 2, 4);
        store(other, 1, field, 2);
        List<Integer> before = othersThan(dst, other);
        load(other, dst, 1, field);
        due(what + ": a reference", other.fields(dst), 4);
        due(what + ": to the same record", other.same(dst, 2), 1);
        due(what + ": no record more or less", other.used(), size + 6);
        Checks.holds(what + ": no other register is changed", othersThan(dst, other).equals(before));
    }

    // Promise 6: "Answers 0; -1;"

    private static void loadRefuses() {
        List<Call> calls = new ArrayList<>();
        for (int wrong : WRONG_REGISTERS) {
            for (int right = 0; right < 6; right++) {
                for (int field = -1; field <= 6; field++) {
                    calls.add(Call.load(wrong, right, field, -1));
                    calls.add(Call.load(right, wrong, field, -1));
                }
            }
            for (int other : WRONG_REGISTERS) {
                calls.add(Call.load(wrong, other, 0, -1));
            }
        }
        States.NEW.keptByAll(calls);
        States.MIXED.keptByAll(calls);
    }

    // Promise 6: "or -3, and changes nothing, if source holds no reference"

    private static void loadWithoutReference() {
        List<Call> calls = new ArrayList<>();
        for (int dst = 0; dst < 6; dst++) {
            for (int field = 0; field < 6; field++) {
                calls.add(Call.load(dst, 2, field, -3));
            }
            for (int field : WRONG_FIELDS) {
                calls.add(Call.load(dst, 2, field, -3));
            }
        }
        // Register 2 holds a number in each of the states.
        keptInAllStates(calls);
        for (int number : NUMBERS) {
            BreakHeap heap = States.FULL_OF_REACHED.build();
            number(heap, 4, number);
            due("P6 from the number " + number, heap.load(0, 4, 0), -3);
            due("P6 dst is kept", heap.fields(0), 1);
            due("P6 from the number " + number + " to itself", heap.load(4, 4, 0), -3);
            due("P6 which stays", heap.value(4), number);
        }
    }

    // Promise 6: "or the record has no such field"

    private static void loadWithoutSuchField() {
        for (int size = 1; size <= 6; size++) {
            State state = amongOthers(size);
            List<Call> calls = new ArrayList<>();
            for (int field : fieldsNotOf(size)) {
                for (int dst = 0; dst < 6; dst++) {
                    calls.add(Call.load(dst, 1, field, -3));
                }
            }
            state.keptByAll(calls);
        }
    }

    // Promise 7: "Collects. Answers the number of words used then."

    private static void collectEmptyAndFull() {
        BreakHeap empty = new BreakHeap();
        due("P7 empty", empty.collect(), 0);
        due("P7 empty again", empty.collect(), 0);
        for (int reached = 2; reached <= 72; reached++) {
            for (int unreached = 0; unreached <= 72 - reached; unreached++) {
                if (unreached != 1) {
                    collectBoth(reached, unreached);
                }
            }
        }
        States.NEW.keptByAll(List.of(Call.collect(0)));
        States.FULL_OF_REACHED.keptByAll(List.of(Call.collect(72)));
    }

    private static void collectBoth(int reached, int unreached) {
        BreakHeap heap = new BreakHeap();
        useUnreached(heap, 1, unreached);
        useReached(heap, 0, 1, reached);
        due("P7 used before", heap.used(), reached + unreached);
        due("P7 words used then", heap.collect(), reached);
        due("P7 and after", heap.used(), reached);
        due("P7 nothing more to collect", heap.collect(), reached);
    }

    // Promise 8: "The number of fields of the record that the register refers to;"

    private static void fieldsOfSmallestAndLargest() {
        for (int register = 0; register < 6; register++) {
            for (int size = 1; size <= 6; size++) {
                BreakHeap heap = new BreakHeap();
                make(heap, register, size);
                due("P8 fields of " + size, heap.fields(register), size);
                due("P8 collected", heap.collect(), size + 1);
                due("P8 fields of " + size + " after collecting", heap.fields(register), size);
            }
        }
    }

    // Promise 8: "0 if it holds a number;"

    private static void fieldsOfNumbers() {
        BreakHeap heap = States.FULL_OF_REACHED.build();
        for (int number : NUMBERS) {
            number(heap, 5, number);
            due("P8 the number " + number, heap.fields(5), 0);
        }
    }

    // Promise 8: "-1."

    private static void fieldsRefuses() {
        List<Call> calls = new ArrayList<>();
        for (int wrong : WRONG_REGISTERS) {
            calls.add(Call.fields(wrong, -1));
        }
        keptInAllStates(calls);
    }

    // Promise 9: "The number in the register;"

    private static void valueOfEveryNumber() {
        for (int register = 0; register < 6; register++) {
            BreakHeap heap = new BreakHeap();
            for (int number : NUMBERS) {
                number(heap, register, number);
                due("P9 value", heap.value(register), number);
            }
        }
    }

    // Promise 9: "0 if it holds a reference"

    private static void valueOfReferences() {
        BreakHeap heap = new BreakHeap();
        number(heap, 1, 44);
        move(heap, 2, 1);
        for (int i = 0; i < 36; i++) {
            make(heap, 1, 1);
            store(heap, 1, 0, 2);
            due("P9 reference to record " + i, heap.value(1), 0);
            move(heap, 2, 1);
        }
        due("P9 collected", heap.collect(), 72);
        for (int i = 0; i < 36; i++) {
            due("P9 reference from a field", heap.value(1), 0);
            load(heap, 1, 1, 0);
        }
        due("P9 number from the last field", heap.value(1), 44);
    }

    // Promise 9: "or if refused."

    private static void valueRefuses() {
        List<Call> calls = new ArrayList<>();
        for (int wrong : WRONG_REGISTERS) {
            calls.add(Call.value(wrong, 0));
        }
        keptInAllStates(calls);
        for (int wrong : WRONG_REGISTERS) {
            BreakHeap heap = new BreakHeap();
            for (int register = 0; register < 6; register++) {
                number(heap, register, 50 + register);
            }
            due("P9 refused beside numbers", heap.value(wrong), 0);
        }
    }

    // Promise 10: "1 if the registers hold the same term (equal numbers"

    private static void sameNumbers() {
        for (int first : NUMBERS) {
            BreakHeap heap = new BreakHeap();
            number(heap, 0, first);
            due("P10 a register and itself", heap.same(0, 0), 1);
            for (int second : NUMBERS) {
                number(heap, 1, second);
                due("P10 " + first + " and " + second, heap.same(0, 1), first == second ? 1 : 0);
                due("P10 " + second + " and " + first, heap.same(1, 0), first == second ? 1 : 0);
            }
            for (int bit = 0; bit < 32; bit++) {
                number(heap, 1, first ^ (1 << bit));
                due("P10 numbers that differ in bit " + bit, heap.same(0, 1), 0);
            }
        }
    }

    // Promise 10: "or references to the same record), else 0;"

    private static void sameReferences() {
        BreakHeap heap = new BreakHeap();
        make(heap, 0, 1);
        move(heap, 1, 0);
        for (int i = 1; i < 36; i++) {
            due("P10 a register and itself", heap.same(0, 0), 1);
            due("P10 the same record", heap.same(0, 1), 1);
            make(heap, 2, 1);
            due("P10 records that are alike", heap.same(0, 2), 0);
            due("P10 records that are alike", heap.same(2, 0), 0);
            store(heap, 2, 0, 0);
            load(heap, 3, 2, 0);
            due("P10 the same record through a field", heap.same(3, 0), 1);
            move(heap, 0, 2);
            move(heap, 1, 2);
        }
        due("P10 36 records", heap.collect(), 72);
        for (int i = 1; i < 36; i++) {
            load(heap, 1, 1, 0);
            due("P10 36 records all apart", heap.same(0, 1), 0);
            load(heap, 3, 3, 0);
        }
        sameAfterCollecting();
    }

    private static void sameAfterCollecting() {
        BreakHeap heap = States.FULL_OF_UNREACHED.build();
        move(heap, 1, 0);
        load(heap, 2, 0, 2);
        due("P10 collected", heap.collect(), 20);
        due("P10 still the same record", heap.same(0, 1), 1);
        due("P10 still another record", heap.same(0, 2), 0);
        load(heap, 3, 1, 2);
        due("P10 still the same through a field", heap.same(2, 3), 1);
        load(heap, 3, 4, 0);
        due("P10 still the same through itself", heap.same(3, 4), 1);
    }

    private static void sameNumberAndReference() {
        for (int number : NUMBERS) {
            BreakHeap heap = States.FULL_OF_REACHED.build();
            number(heap, 4, number);
            for (int i = 0; i < 36; i++) {
                due("P10 a reference and " + number, heap.same(0, 4), 0);
                due("P10 " + number + " and a reference", heap.same(4, 0), 0);
                load(heap, 0, 0, 0);
            }
            due("P10 the last field", heap.same(0, 4), number == -5 ? 1 : 0);
        }
    }

    // Promise 10: "-1."

    private static void sameRefuses() {
        List<Call> calls = new ArrayList<>();
        for (int wrong : WRONG_REGISTERS) {
            for (int right = 0; right < 6; right++) {
                calls.add(Call.same(wrong, right, -1));
                calls.add(Call.same(right, wrong, -1));
            }
            for (int other : WRONG_REGISTERS) {
                calls.add(Call.same(wrong, other, -1));
            }
        }
        keptInAllStates(calls);
    }

    // Promise 11: "The number of words used."

    private static void usedEmptyAndFull() {
        BreakHeap heap = new BreakHeap();
        due("P11 empty", heap.used(), 0);
        for (int words = 2; words <= 72; words += 2) {
            chain(heap, 0, 1, 1, 0);
            due("P11 used", heap.used(), words);
        }
        due("P11 asked again when full", heap.used(), 72);
        due("P11 refused when full", heap.make(1, 1), -2);
        due("P11 still full", heap.used(), 72);
        number(heap, 0, 0);
        due("P11 full of unreached", heap.used(), 72);
        make(heap, 0, 1);
        due("P11 after the collecting of make", heap.used(), 2);
        number(heap, 0, 0);
        due("P11 collected", heap.collect(), 0);
        due("P11 empty again", heap.used(), 0);
    }

    // Promises 8 to 11 name no change: a question leaves the state as it is.

    private static void questionsChangeNothing() {
        int[] usedWords = {0, 21, 71, 72, 72};
        for (int i = 0; i < usedWords.length; i++) {
            State state = States.ALL.get(i);
            BreakHeap heap = state.build();
            List<Call> calls = new ArrayList<>(List.of(Call.used(usedWords[i])));
            for (int a = 0; a < 6; a++) {
                calls.add(Call.fields(a, heap.fields(a)));
                calls.add(Call.value(a, heap.value(a)));
                for (int b = 0; b < 6; b++) {
                    calls.add(Call.same(a, b, heap.same(a, b)));
                }
            }
            state.keptByAll(calls);
        }
    }
}
