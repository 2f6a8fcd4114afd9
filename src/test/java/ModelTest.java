/** All promises: long mixed runs of calls, with the model's answers as the due ones. */
public final class ModelTest {
    private static final int RUNS = 3000;
    /** Nothing is promised behind the last one; the mixed ones leave some to look at the slots. */
    private static final int CALLS = 512;
    private static final int MIXED_CALLS = 300;
    private static final String[] KNOWN = {
        "#0", "#1", "#2", "#3", "#9", "#40", "#99", "S", "K", "I", "S K K", "S(K S)K",
        "\\m n f.m(n f)", "\\m n f x.m f(n f x)", "\\m n.n m", "\\n f x.f(n f x)",
        "\\f.(\\x.f(x x))(\\x.f(x x))", "(\\x.x x)(\\x.x x)", "(\\x.x x x)(\\x.x x x)",
        "\\n f x.n(\\g h.h(g f))(\\u.x)(\\u.u)", "\\x y z.x z(y z)", "\\a b c d e.e d c b a",
        "\\p q.p q p", "\\x.x(\\y.x y(\\z.z y x))", "(\\x y.y x)a(\\z.z z b)", "S I I(S I I)",
        "S(S(K S)K)(S(S(K S)K)I)", "\\x y z w.x(\\v.v y(z w))", "K(\\x.x)((\\x.x x)(\\x.x x))",
    };

    private static final Checks CHECKS = new Checks();
    private static long seed = 20261115L;
    private static int calls = 0;
    private static boolean finished = false;

    public static void main(String[] args) throws InterruptedException {
        Thread deep = new Thread(null, ModelTest::runs, "deep", 1L << 29);
        deep.start();
        deep.join();
        CHECKS.due("all runs finished", finished, true);
        CHECKS.end();
    }

    /** Always the same numbers: a fault that is found once is found again. */
    private static int below(int bound) {
        seed = seed * 6364136223846793005L + 1442695040888963407L;
        return (int) ((seed >>> 33) % bound);
    }

    private static boolean oneIn(int n) {
        return below(n) == 0;
    }

    private static void runs() {
        for (int run = 0; run < RUNS; run++) {
            LambdaBench bench = new LambdaBench();
            Model model = new Model();
            calls = 0;
            while (calls < MIXED_CALLS) {
                call("run " + run + ", call " + calls + ": ", bench, model);
            }
            for (int slot = 0; slot < 5; slot++) {
                compareSlot("end of run " + run + ": ", bench, model, slot);
            }
        }
        finished = true;
    }

    private static void call(String when, LambdaBench bench, Model model) {
        int a = slot();
        int b = slot();
        int c = slot();
        int n = oneIn(20) ? below(1000) - 300 : 1 + below(oneIn(3) ? 400 : 12);
        int letter = oneIn(30) ? below(300) : 'a' + below(26);
        switch (below(18)) {
            case 0, 1, 2, 3, 4 -> {
                feed(when, bench, model, text());
                both(when + "read " + a, () -> bench.read(a), () -> model.read(a));
                both(when + "place", bench::place, model::place);
            }
            case 5 -> both(when + "size", () -> bench.size(a), () -> model.size(a));
            case 6 -> {
                int i = below(60) - 3;
                both(when + "print", () -> bench.print(a, i), () -> model.print(a, i));
            }
            case 7 -> both(when + "copy", () -> {
                bench.copy(a, b);
                return 0;
            }, () -> {
                model.copy(a, b);
                return 0;
            });
            case 8, 9 -> both(when + "apply", () -> bench.apply(a, b, c), () -> model.apply(a, b, c));
            case 10 -> both(when + "bind", () -> bench.bind(a, letter), () -> model.bind(a, letter));
            case 11 -> both(when + "redexes", () -> bench.redexes(a), () -> model.redexes(a));
            case 12, 13 -> {
                both(when + "reduce " + n, () -> bench.reduce(a, n), () -> model.reduce(a, n));
                both(when + "how", bench::how, model::how);
            }
            case 14 -> both(when + "abstracted", () -> bench.abstracted(a), () -> model.abstracted(a));
            case 15 -> {
                both(when + "numeral " + n, () -> bench.numeral(a, n), () -> model.numeral(a, n));
                both(when + "how", bench::how, model::how);
            }
            case 16 -> both(when + "same", () -> bench.same(a, b), () -> model.same(a, b));
            default -> both(when + "has", () -> bench.has(a, letter), () -> model.has(a, letter));
        }
    }

    private static void both(String what, Checks.Call bench, Checks.Call model) {
        calls++;
        if (calls > CALLS) {
            return;
        }
        CHECKS.due(what, Checks.answerOf(bench), Checks.answerOf(model));
    }

    /** Few slots, so that calls meet; now and then one that is none. */
    private static int slot() {
        return oneIn(40) ? below(20) - 4 : below(5);
    }

    private static void compareSlot(String when, LambdaBench bench, Model model, int slot) {
        both(when + "size", () -> bench.size(slot), () -> model.size(slot));
        int size = Math.max(1, model.size(slot));
        int stride = 1 + size / 35;
        for (int i = 0; i < size; i += stride) {
            int place = i;
            both(when + "print " + i, () -> bench.print(slot, place), () -> model.print(slot, place));
        }
    }

    private static void feed(String when, LambdaBench bench, Model model, String text) {
        for (int start = 0; start < text.length();) {
            int n = Math.min(oneIn(3) ? 1 + below(8) : 8, text.length() - start);
            long bytes = below(1 << 30);
            for (int i = 0; i < n; i++) {
                bytes = bytes << 8 | text.charAt(start + i);
            }
            long fed = bytes;
            both(when + "feed", () -> bench.feed(fed, n), () -> model.feed(fed, n));
            start += n;
        }
    }

    private static String text() {
        if (oneIn(3)) {
            return KNOWN[below(KNOWN.length)];
        }
        if (oneIn(25)) {
            return "\\" + "ab".charAt(below(2)) + "c".repeat(below(200)) + ".a b(\\x.x a)" + term(2);
        }
        StringBuilder text = new StringBuilder(term(1 + below(6)));
        for (int faults = oneIn(3) ? 1 + below(2) : 0; faults > 0 && text.length() > 0; faults--) {
            int i = below(text.length());
            char code = "()\\.#0aSKI x9 A\t@\u00ff".charAt(below(18));
            if (oneIn(2)) {
                text.deleteCharAt(i);
            } else {
                text.insert(i, code);
            }
        }
        text.setLength(Math.min(text.length(), 300));
        return text.toString();
    }

    private static String term(int depth) {
        StringBuilder term = new StringBuilder();
        for (int atoms = 1 + below(4); atoms > 0; atoms--) {
            term.append(oneIn(4) ? " " : "").append(atom(depth)).append(oneIn(6) ? " " : "");
        }
        return term.toString();
    }

    private static String atom(int depth) {
        int kind = depth == 0 ? below(4) : below(10);
        if (kind < 3) {
            return "" + (char) ('a' + below(6));
        }
        if (kind == 3) {
            return oneIn(3) ? "#" + below(oneIn(6) ? 100 : 5) : "" + "SKI".charAt(below(3));
        }
        if (kind < 6) {
            return "(" + term(depth - 1) + ")";
        }
        StringBuilder names = new StringBuilder();
        for (int i = 1 + below(3); i > 0; i--) {
            names.append((char) ('a' + below(6))).append(oneIn(4) ? " " : "");
        }
        String abstraction = "\\" + names + "." + term(depth - 1);
        return oneIn(4) ? abstraction : "(" + abstraction + ")";
    }
}
