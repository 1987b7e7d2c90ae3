import java.util.ArrayList;
import java.util.List;

/** A test for each sentence under "What it is" and "Terms" that names a boundary case. */
public final class TermsBoundaryTest extends CheckedCalls {
    private static final int CALLS = 512;

    private TermsBoundaryTest() {
    }

    public static void main(String[] args) {
        storeIsSqueezedTogether();
        lastCallIsAnsweredAsDue();
        manyCallsWearNothingOut();
        termIsNumberOrReference();
        registersAreSix();
        registersHoldZeroAtTheStart();
        recordHasOneToSixFields();
        fieldsCountFromZero();
        fieldsHoldTermsAndMayBeChanged();
        recordsReferInAnyWay();
        recordTakesOneWordMore();
        reachedFromEachRegister();
        reachedFromEachField();
        reachedAtTheEndOfTheLongestChain();
        reachedByManyReferences();
        notReachedByItselfOrTheUnreached();
        notReachedByWordsBesideTheRecord();
        collectingRemovesAllThatAreNotReached();
        unreachedStayUnderOtherCalls();
        unreachedStayWhenTheLastReferenceGoes();
        usedCountsReachedAndUnreached();
        usedIsNeverMoreThanAll();
        registersOutOfRangeAreRefused();
        registersOutOfRangeAreRefusedFirst();
        Checks.finish();
    }

    // "in a store of 72 words that is squeezed together when it runs full"

    private static void storeIsSqueezedTogether() {
        for (int kept = 1; kept <= 6; kept++) {
            for (int dropped = 1; dropped <= 6; dropped++) {
                for (int size = 1; size <= 6; size++) {
                    squeeze(kept, dropped, size);
                }
            }
        }
    }

    /** Records that are kept stand between ones that are not; the words of all gaps are due to be usable. */
    private static void squeeze(int kept, int dropped, int size) {
        String what = "gaps of " + (dropped + 1) + " between " + (kept + 1) + ", then " + (size + 1);
        BreakHeap heap = new BreakHeap();
        int pairs = 72 / (kept + dropped + 2);
        for (int i = 0; i < pairs; i++) {
            make(heap, 1, dropped);
            chain(heap, 0, 1, kept, kept - 1);
        }
        int keptWords = pairs * (kept + 1);
        int fitting = (72 - keptWords) / (size + 1);
        for (int i = 0; i < fitting; i++) {
            chain(heap, 2, 3, size, 0);
        }
        due(what + ": one more", heap.make(4, size), -2);
        due(what + ": used", heap.used(), keptWords + fitting * (size + 1));
        dueChain(what + ": kept", heap, 0, pairs, kept, kept - 1);
        dueChain(what + ": new", heap, 2, fitting, size, 0);
    }

    private static void dueChain(String what, BreakHeap heap, int head, int length, int size, int field) {
        for (int i = 0; i < length; i++) {
            due(what, heap.fields(head), size);
            load(heap, head, head, field);
        }
        due(what + " chain's end", heap.fields(head), 0);
        due(what + " chain's end", heap.value(head), 0);
    }

    // "An object is used for at most 512 calls after it has been made"

    private static void lastCallIsAnsweredAsDue() {
        List<Call> last = List.of(
            Call.make(1, 6, 0), Call.make(1, 7, -1), Call.number(0, 3, 0), Call.number(6, 3, -1),
            Call.move(1, 0, 0), Call.move(6, 0, -1), Call.store(0, 5, 0, 0), Call.store(0, 6, 0, -3),
            Call.load(1, 0, 5, 0), Call.load(1, 0, 6, -3), Call.collect(7), Call.fields(0, 6),
            Call.fields(1, 0), Call.value(0, 0), Call.value(1, 9), Call.same(0, 1, 0),
            Call.same(0, 0, 1), Call.used(42));
        for (Call call : last) {
            call.on("the 512th call", afterManyMakes(CALLS - 1));
        }
    }

    /** So many calls, all but the first of which make a record of 7 words in register 0. */
    private static BreakHeap afterManyMakes(int calls) {
        BreakHeap heap = new BreakHeap();
        number(heap, 1, 9);
        for (int i = 1; i < calls; i++) {
            make(heap, 0, 6);
        }
        return heap;
    }

    private static void manyCallsWearNothingOut() {
        // Ten records fill 70 words; from then on nine more fit after each collecting.
        for (int makes = 1; makes < CALLS - 1; makes++) {
            int want = makes <= 10 ? 7 * makes : 14 + 7 * ((makes - 11) % 9);
            due("used after " + makes + " makes", afterManyMakes(makes + 1).used(), want);
        }
        List<Call> repeated = List.of(
            Call.make(6, 1, -1), Call.make(0, 0, -1), Call.number(0, 7, 0), Call.number(-1, 7, -1),
            Call.move(0, 1, 0), Call.move(0, 6, -1), Call.store(0, 0, 1, -3), Call.store(0, 0, 6, -1),
            Call.load(0, 1, 0, -3), Call.load(6, 1, 0, -1), Call.collect(0), Call.fields(0, 0),
            Call.fields(6, -1), Call.value(0, 0), Call.value(6, 0), Call.same(0, 1, 1),
            Call.same(0, 6, -1), Call.used(0));
        for (Call call : repeated) {
            BreakHeap heap = new BreakHeap();
            for (int i = 1; i <= CALLS; i++) {
                call.on("call " + i + " of the same", heap);
            }
        }
    }

    // "A term is a NUMBER (an int) or a REFERENCE to a record."

    private static void termIsNumberOrReference() {
        for (int number : NUMBERS) {
            BreakHeap heap = new BreakHeap();
            for (int i = 0; i < 35; i++) {
                chain(heap, 0, 1, 1, 0);
            }
            number(heap, 2, number);
            due("number " + number + " in a register", heap.value(2), number);
            due("number " + number + " is no reference", heap.fields(2), 0);
            due("number " + number + " has no field", heap.load(3, 2, 0), -3);
            make(heap, 3, 1);
            store(heap, 3, 0, 2);
            number(heap, 2, 1);
            load(heap, 2, 3, 0);
            due("number " + number + " from a field", heap.value(2), number);
            due("number " + number + " is no reference", heap.fields(2), 0);
            for (int i = 0; i < 35; i++) {
                due("number " + number + " is no record", heap.same(2, 0), 0);
                load(heap, 0, 0, 0);
            }
            due("number " + number + " keeps no record", heap.collect(), 2);
        }
    }

    // "There are six REGISTERS, 0 to 5"

    private static void registersAreSix() {
        BreakHeap heap = new BreakHeap();
        for (int register = 0; register < 6; register++) {
            number(heap, register, 100 + register);
        }
        for (int register = 0; register < 6; register++) {
            due("each register holds its own", heap.value(register), 100 + register);
        }
        for (int register = 0; register < 6; register++) {
            make(heap, register, register + 1);
        }
        for (int register = 0; register < 6; register++) {
            due("each register refers to its own", heap.fields(register), register + 1);
        }
        for (int a = 0; a < 6; a++) {
            for (int b = 0; b < 6; b++) {
                useRegisters(a, b);
            }
        }
        due("below the first", heap.fields(-1), -1);
        due("above the last", heap.fields(6), -1);
    }

    private static void useRegisters(int a, int b) {
        String what = "registers " + a + " and " + b;
        BreakHeap heap = new BreakHeap();
        number(heap, a, 8);
        move(heap, b, a);
        due(what, heap.value(b), 8);
        due(what, heap.same(a, b), 1);
        make(heap, a, 2);
        due(what, heap.same(a, b), a == b ? 1 : 0);
        store(heap, a, 1, b);
        number(heap, b, 7);
        due(what, heap.load(b, a, 1), a == b ? -3 : 0);
        due(what, heap.value(b), a == b ? 7 : 8);
        due(what, heap.used(), 3);
    }

    // "each of which holds a term (the number 0 at the start)"

    private static void registersHoldZeroAtTheStart() {
        for (int register = 0; register < 6; register++) {
            due("value at the start", new BreakHeap().value(register), 0);
            due("fields at the start", new BreakHeap().fields(register), 0);
        }
    }

    // "A RECORD has from 1 to 6 FIELDS"

    private static void recordHasOneToSixFields() {
        for (int size = -1; size <= 8; size++) {
            boolean right = size >= 1 && size <= 6;
            BreakHeap heap = new BreakHeap();
            due("make with " + size + " fields", heap.make(0, size), right ? 0 : -1);
            due("fields of it", heap.fields(0), right ? size : 0);
        }
    }

    // "counted from 0"

    private static void fieldsCountFromZero() {
        for (int size = 1; size <= 6; size++) {
            for (int field = -1; field <= 7; field++) {
                int want = field >= 0 && field < size ? 0 : -3;
                BreakHeap heap = new BreakHeap();
                make(heap, 0, size);
                due("store in field " + field + " of " + size, heap.store(0, field, 1), want);
                due("load of field " + field + " of " + size, heap.load(1, 0, field), want);
            }
        }
    }

    // "each of which holds a term; fields may be changed"

    private static void fieldsHoldTermsAndMayBeChanged() {
        BreakHeap heap = new BreakHeap();
        make(heap, 0, 6);
        make(heap, 1, 1);
        for (int field = 0; field < 6; field++) {
            for (int number : new int[] {Integer.MIN_VALUE, -1, Integer.MAX_VALUE}) {
                number(heap, 2, number);
                store(heap, 0, field, 2);
                load(heap, 3, 0, field);
                due("a number in field " + field, heap.value(3), number);
            }
            store(heap, 0, field, 1);
            load(heap, 3, 0, field);
            due("a reference in field " + field, heap.same(3, 1), 1);
            number(heap, 2, 40 + field);
            store(heap, 0, field, 2);
        }
        for (int field = 0; field < 6; field++) {
            load(heap, 3, 0, field);
            due("field " + field + " holds its own", heap.value(3), 40 + field);
        }
    }

    // "records may refer to each other and to themselves in any way"

    private static void recordsReferInAnyWay() {
        BreakHeap heap = new BreakHeap();
        make(heap, 0, 1);
        store(heap, 0, 0, 0);
        load(heap, 1, 0, 0);
        due("a record in itself", heap.same(0, 1), 1);
        due("a record in itself is kept", heap.collect(), 2);
        number(heap, 0, 0);
        number(heap, 1, 0);
        due("a record in itself goes", heap.collect(), 0);
        for (int length = 1; length <= 36; length++) {
            ring(length);
        }
        web();
    }

    private static void ring(int length) {
        String what = "a ring of " + length;
        BreakHeap heap = new BreakHeap();
        make(heap, 0, 1);
        move(heap, 2, 0);
        for (int i = 1; i < length; i++) {
            chain(heap, 0, 1, 1, 0);
        }
        store(heap, 2, 0, 0);
        number(heap, 2, 0);
        due(what + " is kept", heap.collect(), 2 * length);
        move(heap, 1, 0);
        for (int i = 1; i < length; i++) {
            load(heap, 1, 1, 0);
            due(what + " is not shorter", heap.same(0, 1), 0);
        }
        load(heap, 1, 1, 0);
        due(what + " comes back", heap.same(0, 1), 1);
        number(heap, 0, 0);
        number(heap, 1, 0);
        due(what + " goes", heap.collect(), 0);
    }

    /** Ten records, each field of which refers to another one of the ten. */
    private static void web() {
        BreakHeap heap = new BreakHeap();
        // Field 5 chains them first, so that each can be found while the others are filled in.
        for (int i = 0; i < 10; i++) {
            chain(heap, 0, 1, 6, 5);
        }
        move(heap, 1, 0);
        for (int i = 0; i < 9; i++) {
            move(heap, 2, 1);
            for (int field = 0; field < 5; field++) {
                store(heap, 1, field, 2);
                load(heap, 2, 2, 5);
                if (heap.fields(2) == 0) {
                    move(heap, 2, 0);
                }
            }
            load(heap, 1, 1, 5);
        }
        for (int field = 0; field < 6; field++) {
            store(heap, 1, field, 0);
        }
        number(heap, 0, 0);
        number(heap, 2, 0);
        due("a web held by its last record", heap.collect(), 70);
        load(heap, 1, 1, 3);
        due("a web held by its first record", heap.collect(), 70);
        due("a web is full", heap.make(1, 2), -2);
        number(heap, 1, 0);
        due("a web goes", heap.collect(), 0);
    }

    // "A record with f fields takes f + 1 words."

    private static void recordTakesOneWordMore() {
        for (int size = 1; size <= 6; size++) {
            BreakHeap heap = new BreakHeap();
            int fitting = 72 / (size + 1);
            for (int i = 1; i <= fitting; i++) {
                chain(heap, 0, 1, size, 0);
                due("words of " + i + " records of " + size, heap.used(), i * (size + 1));
            }
            due("one more record of " + size, heap.make(1, size), -2);
            load(heap, 0, 0, 0);
            due("words that one gives back", heap.collect(), (fitting - 1) * (size + 1));
        }
    }

    // "A record is REACHED if a register holds a reference to it"

    private static void reachedFromEachRegister() {
        for (int register = 0; register < 6; register++) {
            for (int size = 1; size <= 6; size++) {
                BreakHeap heap = new BreakHeap();
                make(heap, (register + 1) % 6, size);
                number(heap, (register + 1) % 6, 0);
                make(heap, register, size);
                due("reached from register " + register, heap.collect(), size + 1);
                due("reached from register " + register, heap.fields(register), size);
                number(heap, register, 0);
                due("not from register " + register, heap.collect(), 0);
            }
        }
    }

    // "or a field of a reached record does"

    private static void reachedFromEachField() {
        for (int size = 1; size <= 6; size++) {
            for (int field = 0; field < size; field++) {
                String what = "reached from field " + field + " of " + size;
                BreakHeap heap = new BreakHeap();
                make(heap, 0, size);
                make(heap, 1, 4);
                store(heap, 0, field, 1);
                number(heap, 1, 0);
                due(what, heap.collect(), size + 6);
                load(heap, 2, 0, field);
                due(what, heap.fields(2), 4);
                number(heap, 2, 0);
                store(heap, 0, field, 1);
                due("no longer " + what, heap.collect(), size + 1);
            }
        }
    }

    private static void reachedAtTheEndOfTheLongestChain() {
        BreakHeap heap = new BreakHeap();
        number(heap, 0, 123);
        for (int i = 0; i < 36; i++) {
            chain(heap, 0, 1, 1, 0);
        }
        due("the longest chain", heap.collect(), 72);
        for (int length = 36; length > 0; length--) {
            due("a chain of " + length, heap.collect(), 2 * length);
            due("its head", heap.fields(0), 1);
            load(heap, 0, 0, 0);
        }
        due("the chain's end", heap.value(0), 123);
        due("nothing left", heap.collect(), 0);
    }

    private static void reachedByManyReferences() {
        BreakHeap heap = new BreakHeap();
        make(heap, 0, 1);
        for (int i = 0; i < 10; i++) {
            make(heap, 1, 6);
            for (int field = 0; field < 5; field++) {
                store(heap, 1, field, 0);
            }
            store(heap, 1, 5, 2);
            move(heap, 2, 1);
        }
        due("51 references to one record", heap.collect(), 72);
        number(heap, 0, 0);
        number(heap, 1, 0);
        due("50 references to one record", heap.collect(), 72);
        for (int left = 9; left > 0; left--) {
            load(heap, 2, 2, 5);
            due("fewer references to one record", heap.collect(), 7 * left + 2);
        }
        load(heap, 2, 2, 0);
        due("a last reference to one record", heap.collect(), 2);
    }

    private static void notReachedByItselfOrTheUnreached() {
        BreakHeap heap = new BreakHeap();
        make(heap, 0, 1);
        store(heap, 0, 0, 0);
        make(heap, 1, 2);
        make(heap, 2, 3);
        store(heap, 1, 0, 2);
        store(heap, 2, 0, 1);
        make(heap, 3, 4);
        store(heap, 3, 0, 0);
        store(heap, 3, 1, 1);
        make(heap, 4, 5);
        store(heap, 3, 2, 4);
        store(heap, 4, 0, 4);
        for (int register = 0; register < 4; register++) {
            number(heap, register, 0);
        }
        due("only what register 4 reaches is kept", heap.collect(), 6);
        due("its record", heap.fields(4), 5);
        load(heap, 0, 4, 0);
        due("its field", heap.same(0, 4), 1);
    }

    /** A record that is kept stands where, and beside where, unreached records full of references stand or stood. */
    private static void notReachedByWordsBesideTheRecord() {
        for (int size = 1; size <= 6; size++) {
            for (int other = 1; other <= 6; other++) {
                String what = "a record of " + size + " among unreached ones of " + other;
                BreakHeap heap = new BreakHeap();
                make(heap, 1, 2);
                makeFullOfReferences(heap, 2, other, 1);
                make(heap, 0, size);
                makeFullOfReferences(heap, 2, other, 1);
                number(heap, 1, 0);
                number(heap, 2, 0);
                due(what + " is kept alone", heap.collect(), size + 1);
                for (int i = 0; i < 4; i++) {
                    make(heap, i, size);
                }
                make(heap, 4, 3);
                number(heap, 4, 0);
                due(what + " and what takes their place", heap.collect(), 4 * (size + 1));
            }
        }
    }

    private static void makeFullOfReferences(BreakHeap heap, int dst, int size, int src) {
        make(heap, dst, size);
        for (int field = 0; field < size; field++) {
            store(heap, dst, field, src);
        }
    }

    // "COLLECTING removes all records that are not reached."

    private static void collectingRemovesAllThatAreNotReached() {
        due("nothing there", new BreakHeap().collect(), 0);
        int[] reachedWords = {0, 13, 42, 20, 72};
        for (int i = 0; i < reachedWords.length; i++) {
            State state = States.ALL.get(i);
            due(state.name() + ": collected", state.build().collect(), reachedWords[i]);
            BreakHeap heap = state.build();
            for (int register = 0; register < 6; register++) {
                number(heap, register, 0);
            }
            due(state.name() + ": none reached", heap.collect(), 0);
        }
        for (int unreached = 2; unreached <= 72; unreached++) {
            BreakHeap heap = new BreakHeap();
            useUnreached(heap, 0, unreached);
            due(unreached + " words unreached", heap.used(), unreached);
            due("none of them left", heap.collect(), 0);
            due("and none used", heap.used(), 0);
            useReached(heap, 0, 1, 72);
            due("all words free again", heap.used(), 72);
        }
    }

    // "Records that are not reached stay otherwise."

    private static void unreachedStayUnderOtherCalls() {
        List<Call> others = new ArrayList<>(List.of(
            Call.number(2, 5, 0), Call.move(2, 1, 0), Call.move(4, 4, 0), Call.store(1, 4, 2, 0),
            Call.store(1, 6, 2, -3), Call.store(2, 0, 1, -3), Call.load(2, 1, 2, 0), Call.load(2, 1, 6, -3),
            Call.load(1, 2, 0, -3), Call.fields(1, 6), Call.fields(2, 0), Call.value(1, 0),
            Call.value(2, Integer.MAX_VALUE), Call.same(1, 3, 1), Call.same(1, 2, 0), Call.used(21),
            Call.make(0, 0, -1), Call.make(0, 7, -1)));
        others.addAll(refusedForRegisters());
        for (Call call : others) {
            BreakHeap heap = States.MIXED.build();
            call.on("a mixed state", heap);
            due("unreached stay after " + call.text(), heap.used(), 21);
        }
        for (int size = 1; size <= 6; size++) {
            BreakHeap heap = States.MIXED.build();
            make(heap, 2, size);
            due("unreached stay when a record is made", heap.used(), 21 + size + 1);
            BreakHeap exact = new BreakHeap();
            useUnreached(exact, 0, 72 - (size + 1));
            make(exact, 0, size);
            due("unreached stay when there is just enough room", exact.used(), 72);
        }
    }

    private static void unreachedStayWhenTheLastReferenceGoes() {
        List<Call> dropping = List.of(
            Call.number(0, 1, 0), Call.move(0, 1, 0), Call.move(0, 2, 0), Call.load(0, 2, 1, 0),
            Call.load(0, 0, 0, 0), Call.store(2, 0, 1, 0));
        for (Call call : dropping) {
            BreakHeap heap = held();
            call.on("a record held once", heap);
            due("it stays after " + call.text(), heap.used(), 11);
            boolean fromField = call.text().startsWith("store");
            due("it goes with the collecting", heap.collect(), fromField ? 6 : 8);
        }
        BreakHeap heap = held();
        make(heap, 0, 1);
        due("it stays after make(0, 1)", heap.used(), 13);
        due("it goes with the collecting", heap.collect(), 10);
    }

    /** Register 0 alone holds a record of 2 fields, and register 2 one whose field 0 alone holds one of 4. */
    private static BreakHeap held() {
        BreakHeap heap = new BreakHeap();
        make(heap, 0, 2);
        make(heap, 2, 2);
        make(heap, 1, 4);
        store(heap, 2, 0, 1);
        number(heap, 1, 4);
        due("words held", heap.used(), 11);
        return heap;
    }

    // "The words USED are the sum of the words of all records that are there (reached or not)"

    private static void usedCountsReachedAndUnreached() {
        due("no record", new BreakHeap().used(), 0);
        for (int reached = 0; reached <= 72; reached += 9) {
            for (int unreached = 0; unreached <= 72 - reached; unreached += 9) {
                BreakHeap heap = new BreakHeap();
                useReached(heap, 0, 1, reached);
                useUnreached(heap, 1, unreached);
                due("used of both", heap.used(), reached + unreached);
                due("used of the reached", heap.collect(), reached);
                due("used after collecting", heap.used(), reached);
            }
        }
    }

    // "they are never more than 72"

    private static void usedIsNeverMoreThanAll() {
        for (int first = 1; first <= 6; first++) {
            for (int second = 1; second <= 6; second++) {
                fillWithReached(first, second);
                fillWithUnreached(first, second);
            }
        }
    }

    private static void fillWithReached(int first, int second) {
        BreakHeap heap = new BreakHeap();
        int words = 0;
        for (int i = 0; i < 60; i++) {
            int size = i % 2 == 0 ? first : second;
            boolean fits = words + size + 1 <= 72;
            due("used " + words + ", make of " + size, heap.make(1, size), fits ? 0 : -2);
            if (fits) {
                store(heap, 1, 0, 0);
                move(heap, 0, 1);
                words += size + 1;
            }
            due("used", heap.used(), words);
        }
    }

    private static void fillWithUnreached(int first, int second) {
        BreakHeap heap = new BreakHeap();
        for (int i = 0; i < 200; i++) {
            make(heap, i % 6, i % 2 == 0 ? first : second);
            int words = heap.used();
            Checks.holds("used " + words + " is at most 72", words <= 72);
        }
    }

    // "Register numbers out of range are refused first: the call answers -1 and changes nothing."

    private static void registersOutOfRangeAreRefused() {
        for (State state : States.ALL) {
            state.keptByAll(refusedForRegisters());
        }
    }

    private static List<Call> refusedForRegisters() {
        List<Call> calls = new ArrayList<>();
        for (int wrong : WRONG_REGISTERS) {
            calls.addAll(List.of(
                Call.make(wrong, 1, -1), Call.make(wrong, 6, -1), Call.number(wrong, 3, -1),
                Call.move(wrong, wrong, -1), Call.store(wrong, 0, wrong, -1),
                Call.load(wrong, wrong, 0, -1), Call.fields(wrong, -1), Call.same(wrong, wrong, -1)));
            for (int right = 0; right < 6; right++) {
                calls.addAll(List.of(
                    Call.move(wrong, right, -1), Call.move(right, wrong, -1),
                    Call.store(wrong, 0, right, -1), Call.store(right, 0, wrong, -1),
                    Call.load(wrong, right, 0, -1), Call.load(right, wrong, 0, -1),
                    Call.same(wrong, right, -1), Call.same(right, wrong, -1)));
            }
        }
        return calls;
    }

    /** Each of these calls has another reason for another answer, or for none, as well. */
    private static void registersOutOfRangeAreRefusedFirst() {
        List<Call> calls = new ArrayList<>();
        for (int wrong : WRONG_REGISTERS) {
            for (int size : WRONG_SIZES) {
                calls.add(Call.make(wrong, size, -1));
            }
            for (int field : WRONG_FIELDS) {
                calls.add(Call.store(wrong, field, wrong, -1));
                calls.add(Call.load(wrong, wrong, field, -1));
                // In the mixed state, register 1 holds a reference and register 2 a number.
                for (int right = 1; right <= 2; right++) {
                    calls.add(Call.store(right, field, wrong, -1));
                    calls.add(Call.store(wrong, field, right, -1));
                    calls.add(Call.load(wrong, right, field, -1));
                    calls.add(Call.load(right, wrong, field, -1));
                }
            }
        }
        States.NEW.keptByAll(calls);
        States.MIXED.keptByAll(calls);
        for (int wrong : WRONG_REGISTERS) {
            Call.make(wrong, 6, -1).on("full of reached", States.FULL_OF_REACHED.build());
        }
    }
}
