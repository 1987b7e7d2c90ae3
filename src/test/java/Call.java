import java.util.function.ToIntFunction;

/** A call that can be made on any object, and the answer that is due. */
record Call(String text, ToIntFunction<BreakHeap> action, int due) {
    static Call make(int dst, int fields, int due) {
        return new Call("make(" + dst + ", " + fields + ")", heap -> heap.make(dst, fields), due);
    }

    static Call number(int dst, int value, int due) {
        return new Call("number(" + dst + ", " + value + ")", heap -> heap.number(dst, value), due);
    }

    static Call move(int dst, int src, int due) {
        return new Call("move(" + dst + ", " + src + ")", heap -> heap.move(dst, src), due);
    }

    static Call store(int target, int field, int src, int due) {
        String text = "store(" + target + ", " + field + ", " + src + ")";
        return new Call(text, heap -> heap.store(target, field, src), due);
    }

    static Call load(int dst, int source, int field, int due) {
        String text = "load(" + dst + ", " + source + ", " + field + ")";
        return new Call(text, heap -> heap.load(dst, source, field), due);
    }

    static Call collect(int due) {
        return new Call("collect()", BreakHeap::collect, due);
    }

    static Call fields(int register, int due) {
        return new Call("fields(" + register + ")", heap -> heap.fields(register), due);
    }

    static Call value(int register, int due) {
        return new Call("value(" + register + ")", heap -> heap.value(register), due);
    }

    static Call same(int a, int b, int due) {
        return new Call("same(" + a + ", " + b + ")", heap -> heap.same(a, b), due);
    }

    static Call used(int due) {
        return new Call("used()", BreakHeap::used, due);
    }

    void on(String where, BreakHeap heap) {
        Checks.due(where + ": " + text, action.applyAsInt(heap), due);
    }
}
