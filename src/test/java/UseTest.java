/** The calls that README.md shows, with the answers that it tells. */
public final class UseTest {
    private static final Checks CHECKS = new Checks();

    public static void main(String[] args) {
        example();
        texts();
        CHECKS.end();
    }

    private static void example() {
        LambdaBench bench = new LambdaBench();
        CHECKS.due("size of no term", bench.size(0), 0);

        CHECKS.due("read", readText(bench, 0, "(\\x.x x) #2"), 12);
        CHECKS.due("printed", printed(bench, 0), "@\\@00\\\\@1@10");
        CHECKS.due("redexes", bench.redexes(0), 1);
        CHECKS.due("reduce with 3", bench.reduce(0, 3), 3);
        CHECKS.due("how with 3", bench.how(), 2);
        CHECKS.due("reduce with 100", bench.reduce(0, 100), 4);
        CHECKS.due("how with 100", bench.how(), 1);
        CHECKS.due("printed when reduced", printed(bench, 0), "\\\\@1@1@1@10");

        CHECKS.due("numeral", bench.numeral(0, 100), 4);
        CHECKS.due("read of #4", readText(bench, 1, "#4"), 11);
        CHECKS.due("same", bench.same(0, 1), true);

        CHECKS.due("read to abstract", readText(bench, 2, "\\f x.f(x y)"), 7);
        CHECKS.due("abstracted", bench.abstracted(2), 19);
        CHECKS.due("printed when abstracted", printed(bench, 2), "@@S@@S@KSK@K@@SI@Ky");
        CHECKS.due("has", bench.has(2, 'y'), true);
        CHECKS.due("bind", bench.bind(2, 'y'), 20);
        CHECKS.due("has when bound", bench.has(2, 'y'), false);
        bench.copy(2, 3);
        CHECKS.due("size of the copy", bench.size(3), 20);
        CHECKS.due("apply", bench.apply(3, 1, 4), 32);

        CHECKS.throwing("a wrong text", Checks.ARGUMENT, () -> readText(bench, 5, "a (b"));
        CHECKS.due("place", bench.place(), 4);
    }

    private static void texts() {
        CHECKS.right("\\x y.x", "\\\\1");
        CHECKS.right("\\x.\\y.x", "\\\\1");
        CHECKS.right("a b c", "@@abc");
        CHECKS.right("(a b) c", "@@abc");
        CHECKS.right("#3", "\\\\@1@1@10");
        CHECKS.right("\\f x.f(f(f x))", "\\\\@1@1@10");
        CHECKS.right("(\\x.x y)z", "@\\@0yz");
        CHECKS.wrong("", 0);
        CHECKS.wrong("(".repeat(21), 20);
    }

    private static int readText(LambdaBench bench, int slot, String text) {
        for (int start = 0; start < text.length(); start += 8) {
            int n = Math.min(8, text.length() - start);
            long bytes = 0;
            for (int i = start; i < start + n; i++) {
                bytes = bytes << 8 | text.charAt(i);
            }
            bench.feed(bytes, n);
        }
        return bench.read(slot);
    }

    private static String printed(LambdaBench bench, int slot) {
        StringBuilder row = new StringBuilder();
        int size = bench.size(slot);
        for (int i = 0; i < size; i++) {
            row.append((char) bench.print(slot, i));
        }
        return row.toString();
    }
}
