import com.sun.management.ThreadMXBean;
import java.lang.management.ManagementFactory;

/**
 * 'An object is used for at most 512 calls after it has been made': the last of them are answered
 * like the first ones, whatever stood before. 'All memory is rows made once': calls make no more.
 */
public final class CallsTest {
    private static final int CALLS = 512;
    /** How many calls prepared() uses. */
    private static final int FIRST = 11;
    private static final Checks CHECKS = new Checks();

    public static void main(String[] args) {
        everyMethodIsAnsweredAsThe512th();
        everyRefusalIsAnsweredAsThe512th();
        refusedCallsLeaveEverything();
        dearCallsToTheEnd();
        aTapeToTheEnd();
        callsMakeNoRows();
        CHECKS.end();
    }

    private static LambdaBench prepared() {
        LambdaBench bench = Checks.with("(\\x.x x)(K a)", "#7", "I(I a)");
        Checks.feed(bench, "a)");
        Checks.answerOf(() -> bench.read(4));
        bench.reduce(2, 1);
        bench.feed('c', 1);
        return bench;
    }

    /** Calls that change nothing, of all kinds, so that the next one is the last. */
    private static void spend(LambdaBench bench, int calls) {
        for (int i = 0; i < calls; i++) {
            int kind = i % 9;
            Checks.answerOf(() -> switch (kind) {
                case 0 -> bench.size(0);
                case 1 -> bench.print(0, 3);
                case 2 -> bench.redexes(0);
                case 3 -> bench.same(0, 1);
                case 4 -> bench.has(0, 'a');
                case 5 -> bench.read(12);
                case 6 -> bench.feed(0, 9);
                case 7 -> bench.apply(0, 1, 12);
                default -> bench.reduce(0, 0);
            });
        }
    }

    private interface Asked {
        Object answer(LambdaBench bench);
    }

    private static void asTheLast(String what, Object due, Asked asked) {
        LambdaBench first = prepared();
        CHECKS.due(what + " at first", Checks.answerOf(() -> asked.answer(first)), due);
        LambdaBench last = prepared();
        spend(last, CALLS - FIRST - 1);
        CHECKS.due(what + " as the last", Checks.answerOf(() -> asked.answer(last)), due);
    }

    private static void everyMethodIsAnsweredAsThe512th() {
        asTheLast("feed", 2, bench -> bench.feed('a', 1));
        asTheLast("read", 1, bench -> bench.read(5));
        asTheLast("place", 1, LambdaBench::place);
        asTheLast("size", 8, bench -> bench.size(0));
        asTheLast("print", (int) 'a', bench -> bench.print(0, 7));
        asTheLast("copy", "done", bench -> {
            bench.copy(0, 3);
            return "done";
        });
        asTheLast("apply", 26, bench -> bench.apply(0, 1, 3));
        asTheLast("bind", 9, bench -> bench.bind(0, 'a'));
        asTheLast("redexes", 1, bench -> bench.redexes(0));
        asTheLast("reduce", 2, bench -> bench.reduce(0, 400));
        asTheLast("how", 2, LambdaBench::how);
        asTheLast("abstracted", 9, bench -> bench.abstracted(0));
        asTheLast("numeral", 7, bench -> bench.numeral(1, 2));
        asTheLast("same", false, bench -> bench.same(0, 1));
        asTheLast("has", true, bench -> bench.has(0, 'a'));
    }

    private static void everyRefusalIsAnsweredAsThe512th() {
        asTheLast("feed", Checks.ARGUMENT, bench -> bench.feed('a', 9));
        asTheLast("read", Checks.ARGUMENT, bench -> bench.read(12));
        asTheLast("size", Checks.ARGUMENT, bench -> bench.size(-1));
        asTheLast("print", Checks.BOUNDS, bench -> bench.print(0, 8));
        asTheLast("copy", Checks.ARGUMENT, bench -> {
            bench.copy(0, 12);
            return "done";
        });
        asTheLast("apply", Checks.STATE, bench -> bench.apply(0, 3, 0));
        asTheLast("bind", Checks.ARGUMENT, bench -> bench.bind(0, 96));
        asTheLast("redexes", Checks.STATE, bench -> bench.redexes(3));
        asTheLast("reduce", Checks.ARGUMENT, bench -> bench.reduce(0, 401));
        asTheLast("abstracted", Checks.STATE, bench -> bench.abstracted(3));
        asTheLast("numeral", Checks.ARGUMENT, bench -> bench.numeral(0, 0));
        asTheLast("same", Checks.ARGUMENT, bench -> bench.same(0, 12));
        asTheLast("has", Checks.ARGUMENT, bench -> bench.has(0, 123));
    }

    /** What stays as it was when a call is refused, after some 500 refused ones. */
    private static void refusedCallsLeaveEverything() {
        LambdaBench bench = prepared();
        spend(bench, CALLS - FIRST - 25);
        CHECKS.due("slot 0", Checks.row(bench, 0), "@\\@00@Ka");
        CHECKS.due("slot 2", Checks.row(bench, 2), "@Ia");
        CHECKS.due("slot 4", bench.size(4), 0);
        CHECKS.due("how", bench.how(), 2);
        CHECKS.due("place", bench.place(), 1);
        CHECKS.due("the tape", bench.feed('d', 1), 2);
        CHECKS.due("is read", bench.read(4), 3);
        CHECKS.due("as it was fed", bench.print(4, 1), (int) 'c');
    }

    /** Great terms, 400 steps a call: the terms come back to where they were. */
    private static void dearCallsToTheEnd() {
        LambdaBench bench = Checks.with("(\\x.x x)(\\x.x x)(" + Checks.sized(1986) + ")");
        bench.copy(0, 1);
        for (int i = 0; i < 100; i++) {
            CHECKS.due("400 steps", bench.reduce(0, 400), 400);
            CHECKS.due("no fuel", bench.how(), 2);
            CHECKS.due("the same term", bench.same(0, 1), true);
            CHECKS.due("a numeral without an end", bench.numeral(0, 400), -2);
        }
    }

    /** Bytes to the last call but one: a text in the wrong slot never uses the tape up. */
    private static void aTapeToTheEnd() {
        LambdaBench bench = new LambdaBench();
        for (int fed = 1; fed <= 400; fed++) {
            CHECKS.due("feed", bench.feed('a', 1), fed);
        }
        for (int more = 401; more < CALLS; more++) {
            CHECKS.throwing("a full tape", Checks.STATE, () -> bench.feed('a', 1));
        }
        CHECKS.due("call 512", bench.read(0), 799);
    }

    private static void callsMakeNoRows() {
        // The first use loads classes; only the second one is looked at.
        useEveryMethod();
        long before = made();
        useEveryMethod();
        long bytes = made() - before;
        // The object itself is some 200,000 bytes; a row of 2,000 for each call, 4,000,000 more.
        CHECKS.due("calls make no rows (" + bytes + " bytes)", bytes < 300_000, true);
    }

    private static long made() {
        ThreadMXBean bean = (ThreadMXBean) ManagementFactory.getThreadMXBean();
        return bean.getThreadAllocatedBytes(Thread.currentThread().getId());
    }

    private static void useEveryMethod() {
        LambdaBench bench = new LambdaBench();
        for (int i = 0; i < 36; i++) {
            bench.feed('\\' << 24 | 'x' << 16 | '.' << 8 | 'x', 4);
            bench.read(0);
            bench.place();
            bench.apply(0, 0, 1);
            bench.bind(1, 'a');
            bench.copy(1, 2);
            bench.redexes(2);
            bench.reduce(2, 400);
            bench.abstracted(1);
            bench.numeral(1, 400);
            bench.how();
            bench.size(1);
            bench.print(1, 0);
            bench.same(0, 1);
        }
    }
}
