/** Promises 10, 11, 12 and 14: redexes, reduce, how, numeral. */
public final class ReductionTest {
    private static final int[] NO_SLOTS = {-1, 12, Integer.MAX_VALUE, Integer.MIN_VALUE};
    private static final int[] NO_STEPS = {0, -1, 401, Integer.MAX_VALUE, Integer.MIN_VALUE};
    private static final Checks CHECKS = new Checks();

    public static void main(String[] args) {
        countsRedexes();
        singleSteps();
        stepOrder();
        settles();
        greatIndices();
        fuel();
        greatSteps();
        stepsUpToTheLimit();
        howIsOfTheLatest();
        numerals();
        noNumerals();
        unsettledNumerals();
        numeralsUpToTheLimit();
        refuses();
        CHECKS.end();
    }

    private static void redexes(String text, int count) {
        CHECKS.due("redexes of " + text, Checks.with(text).redexes(0), count);
    }

    private static void countsRedexes() {
        redexes("a", 0);
        redexes("a b c", 0);
        redexes("\\x.x", 0);
        redexes("a(\\x.x)", 0);
        redexes("(\\x.x)a", 1);
        redexes("(\\x.x)a b", 1);
        redexes("I", 0);
        redexes("I a", 1);
        redexes("a I", 0);
        redexes("I I", 1);
        redexes("K", 0);
        redexes("K a", 0);
        redexes("K a b", 1);
        redexes("K a b c", 1);
        redexes("K(K a b)(I c)", 3);
        redexes("S", 0);
        redexes("S a", 0);
        redexes("S a b", 0);
        redexes("S a b c", 1);
        redexes("S a b c d e", 1);
        redexes("S(I a)(K a b)(S a b c)", 4);
        redexes("\\x.I x", 1);
        redexes("(\\x.I x)(I a)", 3);
        redexes("a(I b)(I c)", 2);
    }

    private static void step(String text, String row) {
        LambdaBench bench = Checks.with(text);
        CHECKS.due("a step of " + text, bench.reduce(0, 1), 1);
        CHECKS.due("row of a step of " + text, Checks.row(bench, 0), row);
    }

    private static void singleSteps() {
        step("I a", "a");
        step("I(a b)c", "@@abc");
        step("K a b", "a");
        step("K(a b)(c d)e", "@@abe");
        step("S a b c", "@@ac@bc");
        step("S(a b)(c d)(e f)g", "@@@@ab@ef@@cd@efg");
        step("(\\x.x)a", "a");
        step("(\\x.y)a", "y");
        step("(\\x.x x)(a b)c", "@@@ab@abc");
        step("(\\x.\\y.x y)y", "\\@y0");
        step("\\z.(\\x.\\y.x y z)z", "\\\\@@101");
        step("\\z.(\\x.\\y.x(\\w.x y z w))(\\v.v z)", "\\\\@\\@02\\@@@\\@03120");
        step("\\a b.(\\x.a b x)(\\y.a b y)", "\\\\@@10\\@@210");
        step("\\a.(\\x y z.a x y z)a", "\\\\\\@@@2210");
    }

    private static void stepOrder() {
        step("I a(I b)", "@a@Ib");
        step("a(I b)(I c)", "@@ab@Ic");
        step("K a(I b)", "a");
        step("K(I a)b", "@Ia");
        step("S(I a)b c", "@@@Iac@bc");
        step("(\\x.a)((\\x.x x)(\\x.x x))", "a");
        step("(\\x.I x)(I a)", "@I@Ia");
        step("S(I a)(I b)", "@@Sa@Ib");
        step("\\x.a(\\y.I y)(I x)", "\\@@a\\0@I0");
        step("I I K I a b", "@@@@IKIab");
        step("(\\x.x)I a", "@Ia");
    }

    private static void settles(String text, int steps, String row) {
        LambdaBench bench = Checks.with(text);
        CHECKS.due("steps of " + text, bench.reduce(0, 400), steps);
        CHECKS.due("how of " + text, bench.how(), 1);
        CHECKS.due("end of " + text, Checks.row(bench, 0), row);
        CHECKS.due("redexes of the end", bench.redexes(0), 0);
        CHECKS.due("no more steps", bench.reduce(0, 1), 0);
        CHECKS.due("how of none", bench.how(), 1);
    }

    private static void settles() {
        settles("a", 0, "a");
        settles("S K K a", 2, "a");
        settles("(\\x y.x y)(\\z.y z)a", 3, "@ya");
        settles("I I K I a b", 4, "b");
        settles("(\\m n f.m(n f))#2#2", 7, "\\\\@1@1@1@10");
        settles("#2#2", 6, "\\\\@1@1@1@10");
        settles("K a((\\x.x x)(\\x.x x))", 1, "a");
    }

    private static void greatIndices() {
        LambdaBench bench = new LambdaBench();
        Checks.read(bench, 0, "\\a" + "b".repeat(120) + ".(\\x.\\y.x)a");
        Checks.read(bench, 1, "\\a" + "b".repeat(121) + ".a");
        Checks.read(bench, 2, "\\ca" + "b".repeat(120) + ".a");
        CHECKS.due("a step", bench.reduce(0, 5), 1);
        CHECKS.due("index 121", bench.same(0, 1), true);
        CHECKS.due("index 120", bench.same(0, 2), false);
    }

    private static void fuel() {
        LambdaBench bench = Checks.with("(\\x.x x)(\\x.x x)");
        CHECKS.due("400 steps", bench.reduce(0, 400), 400);
        CHECKS.due("no fuel", bench.how(), 2);
        CHECKS.due("as before", Checks.row(bench, 0), "@\\@00\\@00");
        CHECKS.due("1 step", bench.reduce(0, 1), 1);
        CHECKS.due("no fuel", bench.how(), 2);
        Checks.read(bench, 1, "I(I(I a))");
        CHECKS.due("2 steps", bench.reduce(1, 2), 2);
        CHECKS.due("no fuel for the third", bench.how(), 2);
        CHECKS.due("the last one", bench.reduce(1, 1), 1);
        CHECKS.due("looked at behind the last step", bench.how(), 1);
    }

    private static void greatSteps() {
        LambdaBench bench = Checks.with("(\\x.x x)#99");
        CHECKS.due("the second is too great", bench.reduce(0, 5), 1);
        CHECKS.due("too great", bench.how(), 3);
        CHECKS.due("it stays", bench.size(0), 403);
        CHECKS.due("again", bench.reduce(0, 1), 0);
        CHECKS.due("too great again", bench.how(), 3);
        Checks.read(bench, 1, "(\\x.x x)#99");
        CHECKS.due("one step", bench.reduce(1, 1), 1);
        CHECKS.due("fuel ends before the great step", bench.how(), 2);
    }

    private static void stepsUpToTheLimit() {
        LambdaBench bench = new LambdaBench();
        Checks.fill(bench, 1, 999);
        Checks.read(bench, 0, "S a b");
        bench.apply(0, 1, 2);
        CHECKS.due("S to 2003", bench.size(2), 1005);
        CHECKS.due("not done", bench.reduce(2, 1), 0);
        CHECKS.due("too great", bench.how(), 3);
        Checks.fill(bench, 1, 997);
        bench.apply(0, 1, 2);
        CHECKS.due("S to 1999", bench.reduce(2, 1), 1);
        CHECKS.due("its size", bench.size(2), 1999);
        Checks.read(bench, 0, "\\x.(\\y.x x)");
        Checks.fill(bench, 1, 999);
        bench.apply(0, 1, 2);
        CHECKS.due("to 2000", bench.reduce(2, 1), 1);
        CHECKS.due("its size", bench.size(2), 2000);
        Checks.read(bench, 0, "\\x.(\\y z.x x)");
        bench.apply(0, 1, 2);
        CHECKS.due("to 2001", bench.reduce(2, 1), 0);
        CHECKS.due("too great", bench.how(), 3);
        Checks.read(bench, 0, "S(\\x.a)b");
        Checks.fill(bench, 1, 995);
        bench.apply(0, 1, 2);
        CHECKS.due("S to 1996", bench.reduce(2, 1), 1);
        CHECKS.due("its size", bench.size(2), 1996);
        Checks.read(bench, 0, "S(\\x y.a)(\\x.b)");
        Checks.fill(bench, 1, 997);
        bench.apply(0, 1, 2);
        CHECKS.due("S to 2002", bench.reduce(2, 1), 0);
        Checks.read(bench, 0, "S(\\x.a)b");
        bench.apply(0, 1, 2);
        CHECKS.due("S to 2000", bench.reduce(2, 1), 1);
        CHECKS.due("its size", bench.size(2), 2000);
        Checks.read(bench, 0, "S(\\x y.a)b");
        bench.apply(0, 1, 2);
        CHECKS.due("S to 2001", bench.reduce(2, 1), 0);
        CHECKS.due("too great", bench.how(), 3);
        CHECKS.due("it stays", bench.size(2), 1005);
    }

    private static void howIsOfTheLatest() {
        LambdaBench bench = Checks.with("#3");
        CHECKS.due("none was", bench.how(), 0);
        CHECKS.throwing("no term", Checks.STATE, () -> bench.reduce(5, 1));
        CHECKS.throwing("no term", Checks.STATE, () -> bench.numeral(5, 1));
        CHECKS.throwing("no steps", Checks.ARGUMENT, () -> bench.reduce(0, 0));
        CHECKS.due("still none was", bench.how(), 0);
        bench.reduce(0, 1);
        CHECKS.due("reduce", bench.how(), 1);
        bench.numeral(0, 1);
        CHECKS.due("numeral", bench.how(), 2);
        CHECKS.throwing("no term", Checks.STATE, () -> bench.reduce(5, 1));
        CHECKS.throwing("no slot", Checks.ARGUMENT, () -> bench.numeral(12, 1));
        bench.redexes(0);
        bench.abstracted(0);
        CHECKS.due("still numeral", bench.how(), 2);
    }

    private static void numeral(String text, int n, int value, int how) {
        LambdaBench bench = Checks.with(text);
        bench.copy(0, 1);
        CHECKS.due("numeral of " + text, bench.numeral(0, n), value);
        CHECKS.due("how of the numeral of " + text, bench.how(), how);
        CHECKS.due(text + " stays", bench.same(0, 1), true);
    }

    private static void numerals() {
        numeral("#0", 2, 0, 1);
        numeral("#1", 2, 1, 1);
        numeral("#7", 400, 7, 1);
        numeral("#99", 2, 99, 1);
        numeral("K I", 2, 0, 1);
        numeral("I", 1, 1, 1);
        numeral("\\f.f", 1, 1, 1);
        numeral("S(K S)K I", 400, 1, 1);
        numeral("S(S(K S)K)I", 400, 2, 1);
        numeral("\\f x.f(f(f x))", 2, 3, 1);
        numeral("(\\m n f.m(n f))#3#3", 100, 9, 1);
        numeral("(\\m n f x.m f(n f x))#15#20", 100, 35, 1);
        numeral("#2#3", 400, 9, 1);
    }

    private static void noNumerals() {
        numeral("a", 9, -1, 1);
        numeral("K", 9, -1, 1);
        numeral("S", 9, -1, 1);
        numeral("K a", 9, -1, 1);
        numeral("\\f x.f a", 9, -1, 1);
        numeral("\\f x.a x", 9, -1, 1);
        numeral("\\f x.x f", 9, -1, 1);
        numeral("\\f x.f f x", 9, -1, 1);
        numeral("\\f x.f x x", 9, -1, 1);
        numeral("\\f x.x x", 9, -1, 1);
        numeral("\\f x.f(x x)", 9, -1, 1);
        numeral("\\f x.f f", 9, -1, 1);
        numeral("\\f x.f", 9, -1, 1);
        numeral("\\f x y.f x", 9, -1, 1);
        numeral("\\f x.f(\\y.x)", 9, -1, 1);
        numeral("\\f x.f(f(f a))", 9, -1, 1);
    }

    private static void unsettledNumerals() {
        numeral("#3", 1, -2, 2);
        numeral("I I", 1, -2, 2);
        numeral("(\\x.x x)(\\x.x x)", 400, -2, 2);
        numeral("(\\x.x x x)(\\x.x x x)", 400, -2, 3);
        numeral("#99#99", 400, -2, 3);
        numeral("(\\m n f.m(n f))#3#3", 3, -2, 2);
    }

    private static void numeralsUpToTheLimit() {
        LambdaBench bench = new LambdaBench();
        Checks.fill(bench, 0, 1995);
        CHECKS.due("1999 with the letters", bench.numeral(0, 1), -1);
        bench.bind(0, 'x');
        CHECKS.due("2000 with the letters", bench.numeral(0, 1), -1);
        CHECKS.due("how", bench.how(), 1);
        bench.bind(0, 'x');
        CHECKS.throwing("2001 with the letters", Checks.STATE, () -> bench.numeral(0, 1));
        CHECKS.due("the term stays", bench.size(0), 1997);
        CHECKS.throwing("n comes first", Checks.ARGUMENT, () -> bench.numeral(0, 0));

        LambdaBench count = new LambdaBench();
        Checks.read(count, 1, "\\m n f x.m f(n f x)");
        Checks.read(count, 2, "#99");
        count.copy(2, 3);
        for (int i = 0; i < 7; i++) {
            count.apply(1, 3, 3);
            count.apply(3, 2, 3);
        }
        CHECKS.due("eight times 99", count.numeral(3, 400), 792);
        CHECKS.due("how", count.how(), 1);
    }

    private static void refuses() {
        LambdaBench bench = Checks.with("I a");
        for (int slot : NO_SLOTS) {
            CHECKS.throwing("redexes", Checks.ARGUMENT, () -> bench.redexes(slot));
            CHECKS.throwing("reduce", Checks.ARGUMENT, () -> bench.reduce(slot, 1));
            CHECKS.throwing("numeral", Checks.ARGUMENT, () -> bench.numeral(slot, 1));
        }
        for (int n : NO_STEPS) {
            CHECKS.throwing("reduce " + n, Checks.ARGUMENT, () -> bench.reduce(0, n));
            CHECKS.throwing("numeral " + n, Checks.ARGUMENT, () -> bench.numeral(0, n));
            CHECKS.throwing("reduce none " + n, Checks.ARGUMENT, () -> bench.reduce(1, n));
            CHECKS.throwing("numeral none " + n, Checks.ARGUMENT, () -> bench.numeral(1, n));
        }
        CHECKS.throwing("redexes of none", Checks.STATE, () -> bench.redexes(1));
        CHECKS.throwing("reduce none", Checks.STATE, () -> bench.reduce(1, 1));
        CHECKS.throwing("numeral of none", Checks.STATE, () -> bench.numeral(1, 1));
        CHECKS.due("the term stays", Checks.row(bench, 0), "@Ia");
    }
}
