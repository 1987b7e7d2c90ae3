import java.util.ArrayList;
import java.util.List;
import java.util.function.Supplier;

/**
 * A state that can be built anew as often as it is needed, so that it can be looked at from all
 * sides although looking at fields changes registers.
 */
record State(String name, Supplier<BreakHeap> built) {
    // Longer than the longest chain that fits, and short enough to stay within 512 calls.
    private static final int STEPS = 40;

    BreakHeap build() {
        return built.get();
    }

    State after(Call call) {
        return new State(name + ", " + call.text(), () -> {
            BreakHeap heap = build();
            call.action().applyAsInt(heap);
            return heap;
        });
    }

    /** The answer is as due, and nothing that can be seen is another after the call. */
    void keptBy(Call call, List<Integer> seenBefore) {
        call.on(name, build());
        Checks.holds(name + ": " + call.text() + " changes nothing", after(call).seen().equals(seenBefore));
    }

    void keptByAll(List<Call> calls) {
        List<Integer> before = seen();
        for (Call call : calls) {
            keptBy(call, before);
        }
    }

    /** All that can be seen of the state and of what comes of it. */
    List<Integer> seen() {
        List<Integer> answers = new ArrayList<>();
        look(build(), answers);
        lookAfterCollecting(answers);
        for (int size = 1; size <= 6; size++) {
            lookAfterMaking(0, size, answers);
            lookAfterMaking(5, size, answers);
        }
        for (int register = 0; register < 6; register++) {
            for (int field = 0; field < 6; field++) {
                walk(register, field, answers);
                lookIntoFields(register, field, answers);
            }
        }
        return answers;
    }

    private static void look(BreakHeap heap, List<Integer> answers) {
        answers.add(heap.used());
        for (int a = 0; a < 6; a++) {
            answers.add(heap.value(a));
            answers.add(heap.fields(a));
            for (int b = a + 1; b < 6; b++) {
                answers.add(heap.same(a, b));
            }
        }
    }

    private void lookAfterCollecting(List<Integer> answers) {
        BreakHeap heap = build();
        answers.add(heap.collect());
        look(heap, answers);
    }

    private void lookAfterMaking(int dst, int size, List<Integer> answers) {
        BreakHeap heap = build();
        answers.add(heap.make(dst, size));
        look(heap, answers);
    }

    private void lookIntoFields(int register, int field, List<Integer> answers) {
        BreakHeap heap = build();
        answers.add(heap.load(register, register, field));
        look(heap, answers);
        for (int inner = 0; inner < heap.fields(register); inner++) {
            BreakHeap deeper = build();
            deeper.load(register, register, field);
            answers.add(deeper.load(register, register, inner));
            look(deeper, answers);
        }
    }

    private void walk(int register, int field, List<Integer> answers) {
        BreakHeap heap = build();
        for (int step = 0; step < STEPS; step++) {
            answers.add(heap.load(register, register, field));
            answers.add(heap.fields(register));
            answers.add(heap.value(register));
        }
    }
}
