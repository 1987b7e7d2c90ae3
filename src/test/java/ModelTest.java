import java.util.ArrayDeque;
import java.util.ArrayList;
import java.util.Arrays;
import java.util.Collections;
import java.util.Deque;
import java.util.IdentityHashMap;
import java.util.List;
import java.util.Set;

/** Long runs of mixed calls, each answer compared with that of a model made of Java objects. */
public final class ModelTest {
    private static final int RUNS = 6000;
    private static final int CALLS = 512;
    private static final int ENDURANCE_CALLS = 200000;

    private ModelTest() {
    }

    /** A record; a term is an Integer or one of these. */
    private static final class Rec {
        final Object[] fields;

        Rec(int size) {
            fields = new Object[size];
            Arrays.fill(fields, 0);
        }
    }

    private static final class Model {
        final Object[] registers = {0, 0, 0, 0, 0, 0};
        final List<Rec> records = new ArrayList<>();

        static boolean wrong(int register) {
            return register < 0 || register > 5;
        }

        int used() {
            int words = 0;
            for (Rec rec : records) {
                words += rec.fields.length + 1;
            }
            return words;
        }

        int collect() {
            Set<Object> seen = Collections.newSetFromMap(new IdentityHashMap<>());
            Deque<Object> open = new ArrayDeque<>(List.of(registers));
            while (!open.isEmpty()) {
                Object term = open.pop();
                if (term instanceof Rec && seen.add(term)) {
                    open.addAll(List.of(((Rec) term).fields));
                }
            }
            records.removeIf(rec -> !seen.contains(rec));
            return used();
        }

        int make(int dst, int size) {
            if (wrong(dst) || size < 1 || size > 6) {
                return -1;
            }
            if (72 - used() < size + 1) {
                collect();
            }
            if (72 - used() < size + 1) {
                return -2;
            }
            Rec rec = new Rec(size);
            records.add(rec);
            registers[dst] = rec;
            return 0;
        }

        int number(int dst, int value) {
            if (wrong(dst)) {
                return -1;
            }
            registers[dst] = value;
            return 0;
        }

        int move(int dst, int src) {
            if (wrong(dst) || wrong(src)) {
                return -1;
            }
            registers[dst] = registers[src];
            return 0;
        }

        boolean noField(int register, int field) {
            return !(registers[register] instanceof Rec) || field < 0 || field >= fields(register);
        }

        int store(int target, int field, int src) {
            if (wrong(target) || wrong(src)) {
                return -1;
            }
            if (noField(target, field)) {
                return -3;
            }
            ((Rec) registers[target]).fields[field] = registers[src];
            return 0;
        }

        int load(int dst, int source, int field) {
            if (wrong(dst) || wrong(source)) {
                return -1;
            }
            if (noField(source, field)) {
                return -3;
            }
            registers[dst] = ((Rec) registers[source]).fields[field];
            return 0;
        }

        int fields(int register) {
            if (wrong(register)) {
                return -1;
            }
            return registers[register] instanceof Rec ? ((Rec) registers[register]).fields.length : 0;
        }

        int value(int register) {
            return wrong(register) || registers[register] instanceof Rec ? 0 : (Integer) registers[register];
        }

        int same(int a, int b) {
            if (wrong(a) || wrong(b)) {
                return -1;
            }
            return registers[a].equals(registers[b]) ? 1 : 0;
        }
    }

    /** A fixed sequence, so that every run of the test is the same. */
    private static final class Dice {
        private long state;

        Dice(long seed) {
            state = seed * 0x9E3779B97F4A7C15L + 1;
        }

        int below(int bound) {
            state = state * 6364136223846793005L + 1442695040888963407L;
            return (int) ((state >>> 33) % bound);
        }

        boolean rarely() {
            return below(40) == 0;
        }

        int anyInt() {
            int[] edges = {0, 1, -1, 6, 7, Integer.MIN_VALUE, Integer.MAX_VALUE};
            return below(2) == 0 ? edges[below(edges.length)] : below(Integer.MAX_VALUE) - (1 << 30);
        }

        int register() {
            return rarely() ? anyInt() : below(6);
        }

        int field(int size) {
            return rarely() || size < 1 ? below(9) - 1 : below(size);
        }
    }

    /** How often each call is chosen; a run with much storing keeps more records reached. */
    private static final int[][] MIXES = {
        {10, 4, 6, 10, 10, 2, 4, 4, 4, 4},
        {12, 1, 4, 20, 8, 1, 2, 2, 3, 3},
        {20, 2, 3, 24, 3, 0, 2, 1, 2, 4},
        {8, 8, 8, 8, 8, 8, 8, 8, 8, 8},
        {30, 1, 1, 10, 10, 0, 1, 1, 1, 3},
        {14, 1, 2, 30, 14, 0, 4, 1, 3, 1},
    };

    public static void main(String[] args) {
        for (int run = 0; run < RUNS && !Checks.anyFailed(); run++) {
            compare(run);
        }
        endure();
        Checks.finish();
    }

    private static void compare(int run) {
        BreakHeap heap = new BreakHeap();
        Model model = new Model();
        Dice dice = new Dice(run);
        int[] mix = MIXES[run % MIXES.length];
        for (int call = 1; call <= CALLS && !Checks.anyFailed(); call++) {
            step(run, call, heap, model, dice, mix);
        }
    }

    private static int choose(Dice dice, int[] mix) {
        int total = 0;
        for (int weight : mix) {
            total += weight;
        }
        int at = dice.below(total);
        int kind = 0;
        while (at >= mix[kind]) {
            at -= mix[kind];
            kind++;
        }
        return kind;
    }

    private static void step(int run, int call, BreakHeap heap, Model model, Dice dice, int[] mix) {
        int a = dice.register();
        int b = dice.register();
        int n = dice.anyInt();
        int field = dice.field(model.fields(a));
        String where = "run " + run + ", call " + call + ": ";
        switch (choose(dice, mix)) {
            case 0 -> {
                int size = dice.rarely() ? n : 1 + dice.below(6);
                Checks.due(where + "make(" + a + ", " + size + ")", heap.make(a, size), model.make(a, size));
            }
            case 1 -> Checks.due(where + "number(" + a + ", " + n + ")", heap.number(a, n), model.number(a, n));
            case 2 -> Checks.due(where + "move(" + a + ", " + b + ")", heap.move(a, b), model.move(a, b));
            case 3 -> Checks.due(where + "store(" + a + ", " + field + ", " + b + ")",
                heap.store(a, field, b), model.store(a, field, b));
            case 4 -> Checks.due(where + "load(" + b + ", " + a + ", " + field + ")",
                heap.load(b, a, field), model.load(b, a, field));
            case 5 -> Checks.due(where + "collect()", heap.collect(), model.collect());
            case 6 -> Checks.due(where + "fields(" + a + ")", heap.fields(a), model.fields(a));
            case 7 -> Checks.due(where + "value(" + a + ")", heap.value(a), model.value(a));
            case 8 -> Checks.due(where + "same(" + a + ", " + b + ")", heap.same(a, b), model.same(a, b));
            default -> Checks.due(where + "used()", heap.used(), model.used());
        }
    }

    /** Past 512 calls the answers are free, but by rule 7 of LANGUAGE.md no call may ever throw. */
    private static void endure() {
        BreakHeap heap = new BreakHeap();
        Dice dice = new Dice(-1);
        for (int call = 1; call <= ENDURANCE_CALLS; call++) {
            int a = dice.register();
            int b = dice.register();
            int field = dice.rarely() ? dice.anyInt() : dice.below(7);
            heap.make(a, dice.rarely() ? dice.anyInt() : 1 + dice.below(6));
            heap.store(b, field, a);
            heap.load(b, a, field);
            heap.move(a, dice.register());
            heap.number(dice.register(), dice.anyInt());
            heap.fields(a);
            heap.value(a);
            heap.same(a, b);
            heap.used();
            if (dice.rarely()) {
                heap.collect();
            }
        }
        Checks.holds("no call has thrown", true);
    }
}
