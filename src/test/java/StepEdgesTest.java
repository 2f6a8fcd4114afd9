/**
 * Every sentence on steps, numerals and abstraction that names a bound or a refused call, on both
 * sides of the bound: those of 'Terms', and promises 10 to 14. Above each test stands the sentence
 * that it holds to.
 */
public final class StepEdgesTest {
    private static final int[] NO_SLOTS = {-1, 12, 13, 256, Integer.MAX_VALUE, Integer.MIN_VALUE};
    private static final int[] NO_STEPS = {0, 401, -1, -400, 402, Integer.MAX_VALUE, Integer.MIN_VALUE};
    private static final Checks CHECKS = new Checks();

    public static void main(String[] args) {
        redexesNeedAllArguments();
        redexesOfNone();
        redexesWithoutSlot();
        stepsOfTheOuterApplication();
        reduceTakes1To400Steps();
        reduceDoesUpToNSteps();
        reduceOfNone();
        reduceWithoutSlotOrN();
        stepsUpTo2000();
        stepsThatKeepOrLowerTheSize();
        stepsThatAreNotDone();
        stepsWithIndices99AndAbove();
        howOfNone();
        howBehindTheLastStep();
        howWithoutFuel();
        howOfTooGreat();
        howAfterRefusedCalls();
        howStaysInOtherCalls();
        abstractedOfNone();
        abstractedWithoutSlot();
        abstractedUpTo2000();
        abstractedAtNoTimeTooGreat();
        abstractedItsOwnVariable();
        abstractedLastOneFirst();
        abstractedKeepsWhatHasNoAbstraction();
        numeralTakes1To400Steps();
        numeralUpTo400Steps();
        numeralOfNone();
        numeralWithoutSlotOrN();
        numeralUpTo2000WithBothLetters();
        numeralSettlesOtherwise();
        numeralDoesNotSettle();
        CHECKS.end();
    }

    private static void redexes(String text, int due) {
        CHECKS.due("redexes of " + text, Checks.with(text).redexes(0), due);
    }

    /** 'an application of an abstraction to an argument, of I to one, of K to two ..., of S to three' */
    private static void redexesNeedAllArguments() {
        redexes("\\x.x", 0);
        redexes("(\\x.x)a", 1);
        redexes("(\\x.x)a b", 1);
        redexes("a(\\x.x)", 0);
        redexes("I", 0);
        redexes("I a", 1);
        redexes("I a b", 1);
        redexes("a I b", 0);
        redexes("K", 0);
        redexes("K a", 0);
        redexes("K a b", 1);
        redexes("K a b c", 1);
        redexes("a K b c", 0);
        redexes("S", 0);
        redexes("S a", 0);
        redexes("S a b", 0);
        redexes("S a b c", 1);
        redexes("S a b c d", 1);
        redexes("a S b c d", 0);
        redexes("a b c d", 0);
        redexes("\\x.x(\\y.y x)", 0);
        redexes("\\x.x((\\y.y)x)", 1);
        redexes("(I a)".repeat(80), 80);
        redexes("S(K(I a)(I b))(I I I)(\\x.K x x)", 6);
    }

    /** 'IllegalStateException: there is none.' */
    private static void redexesOfNone() {
        LambdaBench bench = Checks.with("a");
        CHECKS.due("a term without a redex", bench.redexes(0), 0);
        CHECKS.throwing("none", Checks.STATE, () -> bench.redexes(1));
        bench.copy(1, 0);
        CHECKS.throwing("none now", Checks.STATE, () -> bench.redexes(0));
    }

    /** 'IllegalArgumentException: no such slot' */
    private static void redexesWithoutSlot() {
        LambdaBench bench = Checks.with("I a");
        for (int slot : NO_SLOTS) {
            CHECKS.throwing("redexes in " + slot, Checks.ARGUMENT, () -> bench.redexes(slot));
        }
    }

    private static void step(String text, String row) {
        LambdaBench bench = Checks.with(text);
        CHECKS.due("a step of " + text, bench.reduce(0, 1), 1);
        CHECKS.due("the row after a step of " + text, Checks.row(bench, 0), row);
    }

    /** 'of K to two (it is the outer application)'; 'the first redex in the order of PRINTING' */
    private static void stepsOfTheOuterApplication() {
        step("K(I a)(I b)", "@Ia");
        step("S(I a)(I b)(I c)", "@@@Ia@Ic@@Ib@Ic");
        step("I(I a)", "@Ia");
        step("(\\x.I x)(I a)", "@I@Ia");
        step("K a(I b)(I c)", "@a@Ic");
        step("K(I a)", "@Ka");
        step("S(I a)(I b)", "@@Sa@Ib");
        step("a(I b)(I c)", "@@ab@Ic");
        step("\\x.I x(I x)", "\\@0@I0");
    }

    /** I's before an a, one step for each of them. */
    private static LambdaBench steps(int count) {
        LambdaBench bench = Checks.with("I".repeat(Math.min(count, 399)) + "a", "I");
        for (int more = 399; more < count; more++) {
            bench.apply(1, 0, 0);
        }
        return bench;
    }

    /** 'Up to n steps (1 .. 400)' */
    private static void reduceTakes1To400Steps() {
        for (int n : NO_STEPS) {
            LambdaBench bench = steps(1);
            CHECKS.throwing("reduce by " + n, Checks.ARGUMENT, () -> bench.reduce(0, n));
            CHECKS.due("the term stays", Checks.row(bench, 0), "@Ia");
            CHECKS.due("how stays", bench.how(), 0);
        }
        CHECKS.due("1 step", steps(9).reduce(0, 1), 1);
        CHECKS.due("2 steps", steps(9).reduce(0, 2), 2);
        CHECKS.due("399 steps", steps(405).reduce(0, 399), 399);
        CHECKS.due("400 steps", steps(405).reduce(0, 400), 400);
    }

    /** 'how many were done' */
    private static void reduceDoesUpToNSteps() {
        for (int there : new int[] {0, 1, 2, 7, 398, 399, 400, 401, 402}) {
            for (int n : new int[] {1, 2, 6, 7, 8, 399, 400}) {
                LambdaBench bench = there == 0 ? Checks.with("a") : steps(there);
                int due = Math.min(there, n);
                CHECKS.due(n + " of " + there, bench.reduce(0, n), due);
                CHECKS.due("how of " + n + " of " + there, bench.how(), there <= n ? 1 : 2);
                CHECKS.due("size after them", bench.size(0), 1 + 2 * (there - due));
            }
        }
    }

    /** 'IllegalStateException: there is no term.' */
    private static void reduceOfNone() {
        LambdaBench bench = Checks.with("a");
        CHECKS.due("a term without a redex", bench.reduce(0, 1), 0);
        CHECKS.throwing("none", Checks.STATE, () -> bench.reduce(1, 1));
        CHECKS.throwing("none, 400", Checks.STATE, () -> bench.reduce(1, 400));
        CHECKS.due("still none", bench.size(1), 0);
    }

    /** 'IllegalArgumentException: no such slot or n', be there a term or not. */
    private static void reduceWithoutSlotOrN() {
        LambdaBench bench = Checks.with("I a");
        for (int slot : NO_SLOTS) {
            CHECKS.throwing("reduce in " + slot, Checks.ARGUMENT, () -> bench.reduce(slot, 1));
            CHECKS.throwing("reduce 0 in " + slot, Checks.ARGUMENT, () -> bench.reduce(slot, 0));
        }
        for (int n : NO_STEPS) {
            CHECKS.throwing("reduce none by " + n, Checks.ARGUMENT, () -> bench.reduce(1, n));
        }
        CHECKS.due("the term stays", Checks.row(bench, 0), "@Ia");
    }

    private static void stepTo(int size, String text) {
        LambdaBench bench = Checks.with(text);
        bench.copy(0, 1);
        boolean fits = size <= 2000;
        CHECKS.due("steps to " + size, bench.reduce(0, 1), fits ? 1 : 0);
        CHECKS.due("too great to " + size, bench.how() == 3, !fits);
        CHECKS.due("changed to " + size, bench.same(0, 1), !fits);
        CHECKS.due("size to " + size, bench.size(0), fits ? size : bench.size(1));
    }

    private static String part(int size) {
        return "(" + Checks.sized(size) + ")";
    }

    /** 'A step whose term would be greater than 2,000 is not done.' */
    private static void stepsUpTo2000() {
        for (int n = 990; n <= 1003; n++) {
            stepTo(2 * n + 1, "(\\x.x x)" + part(n));
            stepTo(2 * n + 2, "(\\x y.x x)" + part(n));
            stepTo(2 * n + 5, "S b c" + part(n));
            stepTo(2 * n + 6, "S b(\\y.c)" + part(n));
        }
        // The whole term counts, not the redex alone: what stands before it and behind it, too.
        for (int m = 996; m <= 1006; m++) {
            stepTo(m + 998, "b" + part(m) + "((\\x.x x)" + part(497) + ")");
            stepTo(m + 998, "(\\x.x x)" + part(498) + part(m));
            stepTo(m + 1000, "b" + part(m) + "(S b c" + part(496) + ")");
            stepTo(m + 998, "S b c" + part(496) + part(m));
            stepTo(m + 999, "\\z.(\\x.x x)" + part(497) + part(m) + "z");
        }
        for (int n = 660; n <= 670; n++) {
            stepTo(3 * n + 2, "(\\x.x x x)" + part(n));
        }
    }

    /** A term of 2,000 may step, as long as the next one is not greater. */
    private static void stepsThatKeepOrLowerTheSize() {
        stepTo(1998, "I" + part(1998));
        stepTo(1995, "K" + part(1995) + "b");
        stepTo(1, "K b" + part(1995));
        stepTo(1, "(\\x.b)" + part(1997));
        stepTo(1997, "(\\x.x)" + part(1997));
        stepTo(2000, "S b" + part(1994) + "c");
        stepTo(2000, "S" + part(1994) + "b c");
        stepTo(2000, "(\\x.x x" + part(1990) + ")" + part(4));
        stepTo(2000, "(\\x.x x" + part(1988) + ")" + part(5));
        stepTo(2001, "(\\x.x x" + part(1989) + ")" + part(5));
        stepTo(2000, "S b" + part(1990) + part(3));
        stepTo(2001, "S b" + part(1991) + part(3));
    }

    /** '... is not done': the steps before it are, and the term stays as they left it. */
    private static void stepsThatAreNotDone() {
        LambdaBench bench = Checks.with("I(I((\\x.x x)" + part(1000) + "))", "(\\x.x x)" + part(1000));
        CHECKS.due("two steps before it", bench.reduce(0, 400), 2);
        CHECKS.due("too great", bench.how(), 3);
        CHECKS.due("as they left it", bench.same(0, 1), true);
        CHECKS.due("not done again", bench.reduce(0, 1), 0);
        CHECKS.due("too great again", bench.how(), 3);
        CHECKS.due("it stays", bench.same(0, 1), true);
        LambdaBench fits = Checks.with("I(I((\\x.x x)" + part(999) + "))");
        CHECKS.due("three steps", fits.reduce(0, 400), 3);
        CHECKS.due("no redex any more", fits.how(), 1);
        CHECKS.due("its size", fits.size(0), 1999);
        // A later redex would fit, but only the first one is stepped on.
        LambdaBench later = Checks.with("b((\\x.x x)" + part(1000) + ")(I c)");
        CHECKS.due("the first one is too great", later.reduce(0, 9), 0);
        CHECKS.due("the later one stays", later.redexes(0), 2);
    }

    /** 'the indices of A's and of B's other variables as they have to be', above 99, too */
    private static void stepsWithIndices99AndAbove() {
        for (int deep : new int[] {97, 98, 99, 100, 101, 300}) {
            String names = "b".repeat(deep);
            LambdaBench bench = Checks.with("\\a" + names + ".(\\x y.x)a", "\\a" + names + "y.a",
                "\\a" + names + ".(\\x.a)b", "\\a" + names + ".a",
                "(\\x." + "\\" + names + ".x c)(\\z.z)", "\\" + names + ".(\\z.z)c");
            bench.reduce(0, 1);
            CHECKS.due("A's index below " + deep, bench.same(0, 1), true);
            bench.reduce(2, 1);
            CHECKS.due("B's index below " + deep, bench.same(2, 3), true);
            bench.reduce(4, 1);
            CHECKS.due("A's own variable below " + deep, bench.same(4, 5), true);
        }
        // The least index that reaches out of A, and the greatest one that does not.
        step("\\a.(\\x y.x)a", "\\\\1");
        step("\\a.(\\x y.x)(\\z.z a)", "\\\\\\@02");
        step("\\a.(\\x.a x)b", "\\@0b");
        step("(\\x y.y x)b", "\\@0b");
    }

    /** '0 none was' */
    private static void howOfNone() {
        LambdaBench bench = Checks.with("I a", "#1");
        bench.size(0);
        bench.print(0, 0);
        bench.copy(0, 2);
        bench.apply(0, 1, 3);
        bench.bind(3, 'a');
        bench.redexes(0);
        bench.abstracted(3);
        bench.same(0, 1);
        bench.has(0, 'a');
        bench.place();
        CHECKS.due("no reduce, no numeral", bench.how(), 0);
        bench.reduce(0, 1);
        CHECKS.due("a reduce", bench.how(), 1);
        LambdaBench other = Checks.with("#1");
        CHECKS.due("none of another object", other.how(), 0);
        other.numeral(0, 1);
        CHECKS.due("a numeral", other.how(), 2);
    }

    /** '1 there was no redex any more (looked at behind the last step, too)' */
    private static void howBehindTheLastStep() {
        for (int n : new int[] {1, 2, 3, 399, 400}) {
            LambdaBench last = steps(n);
            CHECKS.due(n + " steps", last.reduce(0, n), n);
            CHECKS.due("the last one was the last", last.how(), 1);
            LambdaBench more = steps(n + 1);
            CHECKS.due(n + " steps of one more", more.reduce(0, n), n);
            CHECKS.due("one is left", more.how(), 2);
            CHECKS.due("it is done", more.reduce(0, n), 1);
            CHECKS.due("none is left", more.how(), 1);
            CHECKS.due("no step", more.reduce(0, n), 0);
            CHECKS.due("still none is left", more.how(), 1);
        }
    }

    /** '2 no fuel' */
    private static void howWithoutFuel() {
        LambdaBench bench = Checks.with("(\\x.x x)(\\x.x x)", "(\\x.x x)" + part(999) + "b");
        for (int n : new int[] {1, 2, 400}) {
            CHECKS.due("steps without an end", bench.reduce(0, n), n);
            CHECKS.due("no fuel", bench.how(), 2);
            CHECKS.due("numeral without an end", bench.numeral(0, n), -2);
            CHECKS.due("no fuel for it", bench.how(), 2);
        }
        // Whether the next step would be too great is not known before there is fuel for it.
        LambdaBench great = Checks.with("I((\\x.x x)" + part(1000) + ")");
        CHECKS.due("the step before it", great.reduce(0, 1), 1);
        CHECKS.due("no fuel for the great one", great.how(), 2);
        CHECKS.due("the great one", great.reduce(0, 1), 0);
        CHECKS.due("too great", great.how(), 3);
    }

    /** '3 a step would have been too great' */
    private static void howOfTooGreat() {
        LambdaBench bench = Checks.with("(\\x.x x)" + part(1000), "(\\x.x x)" + part(999));
        for (int n : new int[] {1, 2, 400}) {
            CHECKS.due("2001", bench.reduce(0, n), 0);
            CHECKS.due("how of 2001", bench.how(), 3);
        }
        bench.reduce(1, 1);
        CHECKS.due("how of 1999", bench.how(), 1);
        CHECKS.due("numeral", bench.numeral(0, 1), -2);
        CHECKS.due("how of the numeral", bench.how(), 3);
    }

    /** 'Of the latest reduce or numeral': a call that was refused was none. */
    private static void howAfterRefusedCalls() {
        String[] texts = {"a", "I(I a)", "(\\x.x x)" + part(1000)};
        for (int due = 1; due <= 3; due++) {
            LambdaBench bench = Checks.with(texts[due - 1], Checks.sized(2000));
            bench.reduce(0, 1);
            CHECKS.due("how", bench.how(), due);
            CHECKS.throwing("no term", Checks.STATE, () -> bench.reduce(2, 1));
            CHECKS.throwing("no n", Checks.ARGUMENT, () -> bench.reduce(0, 401));
            CHECKS.throwing("no slot", Checks.ARGUMENT, () -> bench.reduce(12, 1));
            CHECKS.throwing("no term, numeral", Checks.STATE, () -> bench.numeral(2, 1));
            CHECKS.throwing("no n, numeral", Checks.ARGUMENT, () -> bench.numeral(0, 0));
            CHECKS.throwing("no slot, numeral", Checks.ARGUMENT, () -> bench.numeral(-1, 1));
            CHECKS.throwing("too great, numeral", Checks.STATE, () -> bench.numeral(1, 1));
            CHECKS.due("how stays", bench.how(), due);
        }
    }

    /** 'Of the latest reduce or numeral': other calls are neither. */
    private static void howStaysInOtherCalls() {
        String[] texts = {"a", "I(I a)", "(\\x.x x)" + part(1000)};
        for (int due = 1; due <= 3; due++) {
            LambdaBench bench = Checks.with(texts[due - 1], "\\x.x a");
            bench.reduce(0, 1);
            Checks.read(bench, 2, "I a");
            Checks.answerOf(() -> Checks.read(bench, 2, "I a)"));
            bench.place();
            bench.size(2);
            bench.print(2, 0);
            bench.copy(2, 3);
            bench.apply(1, 2, 3);
            bench.bind(3, 'a');
            bench.redexes(3);
            bench.abstracted(1);
            bench.same(1, 2);
            bench.has(1, 'a');
            CHECKS.due("how stays in other calls", bench.how(), due);
            bench.numeral(2, 1);
            CHECKS.due("how of the numeral", bench.how(), 1);
        }
    }

    /** 'IllegalStateException: there is none' */
    private static void abstractedOfNone() {
        LambdaBench bench = Checks.with("\\x.x");
        CHECKS.throwing("none", Checks.STATE, () -> bench.abstracted(1));
        CHECKS.due("still none", bench.size(1), 0);
        CHECKS.due("a term", bench.abstracted(0), 1);
    }

    /** 'IllegalArgumentException: no such slot' */
    private static void abstractedWithoutSlot() {
        LambdaBench bench = Checks.with("\\x.x");
        for (int slot : NO_SLOTS) {
            CHECKS.throwing("abstracted in " + slot, Checks.ARGUMENT, () -> bench.abstracted(slot));
        }
        CHECKS.due("the term stays", Checks.row(bench, 0), "\\0");
    }

    /** Answers the size when it fits; otherwise it throws, and 'it stays'. */
    private static void abstractedTo(int size, LambdaBench bench) {
        bench.copy(0, 10);
        boolean fits = size <= 2000;
        Object answer = Checks.answerOf(() -> bench.abstracted(0));
        CHECKS.due("abstracted to " + size, answer, fits ? (Object) size : Checks.STATE);
        CHECKS.due("stays at " + size, bench.same(0, 10), !fits);
        CHECKS.due("size at " + size, bench.size(0), fits ? size : bench.size(10));
    }

    /** Letters without an abstraction, of a size (odd), in slot 0. */
    private static LambdaBench letters(int size) {
        LambdaBench bench = new LambdaBench();
        Checks.fill(bench, 0, size);
        return bench;
    }

    /** x b and then more x's, in slot 0. */
    private static LambdaBench xs(int more) {
        LambdaBench bench = Checks.with("x b", "x");
        for (int i = 0; i < more; i++) {
            bench.apply(0, 1, 0);
        }
        return bench;
    }

    /** 'IllegalStateException: ... it would be too great (it stays).' */
    private static void abstractedUpTo2000() {
        // \x.B becomes K B, 1 more. A term without abstractions has an odd size.
        for (int size = 1993; size <= 1999; size += 2) {
            LambdaBench bench = letters(size);
            bench.bind(0, 'x');
            abstractedTo(size + 2, bench);
        }
        // Each x more is an S and an I more, 4 in all.
        for (int more = 20; more <= 26; more++) {
            LambdaBench bench = xs(more);
            bench.bind(0, 'x');
            abstractedTo(7 + 4 * more, bench);
        }
        for (int more = 490; more <= 500; more++) {
            LambdaBench bench = xs(more);
            bench.bind(0, 'x');
            abstractedTo(7 + 4 * more, bench);
        }
    }

    /** \y.(\x.a) ... (\x.a) W y in slot 0: each inner one adds 1 and the outer one takes 3 away. */
    private static LambdaBench growing(int inner, int size) {
        LambdaBench bench = letters(size - 3 - 3 * inner);
        Checks.read(bench, 1, "(\\x.a)".repeat(inner));
        Checks.read(bench, 2, "y");
        bench.apply(1, 0, 0);
        bench.apply(0, 2, 0);
        CHECKS.due("size before", bench.bind(0, 'y'), size);
        return bench;
    }

    /** 'the whole term may at no time be too great' */
    private static void abstractedAtNoTimeTooGreat() {
        for (int inner = 1; inner <= 8; inner++) {
            for (int size = 1998 - inner; size <= 2000; size++) {
                if ((size - 3 - 3 * inner) % 2 == 1) {
                    int greatest = size + inner;
                    int end = greatest - 3;
                    abstractedTo(greatest <= 2000 ? end : 2001, growing(inner, size));
                }
            }
        }
        // An abstraction goes at once: \x.W x(b x) becomes S W b, and is never greater than before.
        LambdaBench bench = letters(1993);
        Checks.read(bench, 1, "x");
        Checks.read(bench, 2, "b x");
        bench.apply(0, 1, 0);
        bench.apply(0, 2, 0);
        CHECKS.due("before", bench.bind(0, 'x'), 2000);
        abstractedTo(1997, bench);
    }

    /** b F W G in slot 0. */
    private static LambdaBench beside(String f, String g) {
        LambdaBench bench = letters(1989);
        Checks.read(bench, 1, "b(" + f + ")");
        Checks.read(bench, 2, g);
        bench.apply(1, 0, 0);
        CHECKS.due("size before", bench.apply(0, 2, 0), 2000);
        return bench;
    }

    private static void becomes(String text, String row) {
        LambdaBench bench = Checks.with(text);
        CHECKS.due("abstracted of " + text, bench.abstracted(0), row.length());
        CHECKS.due("row of abstracted " + text, Checks.row(bench, 0), row);
    }

    /** 'a B that is its variable'; 'one in which it is not'; 'F, in which x is not, to x' */
    private static void abstractedItsOwnVariable() {
        becomes("\\x.x", "I");
        becomes("\\x y.x", "K");
        becomes("\\x y.y", "@KI");
        becomes("\\x y z.x", "@@S@KKK");
        becomes("\\x y z.y", "@KK");
        becomes("\\x y.a x", "@@S@KKa");
        becomes("\\x.a x", "a");
        becomes("\\x.x x", "@@SII");
        becomes("\\x.x a", "@@SI@Ka");
        becomes("\\x y.x y", "I");
        becomes("\\x y.y x", "@@S@K@SIK");
        becomes("\\x y z.x y z", "I");
    }

    /** 'one by one, the last one in the order of PRINTING first' */
    private static void abstractedLastOneFirst() {
        // \x.a x takes 3 away, those of \x y.a add 1 each: at 2,000 the one that takes has to be last.
        abstractedTo(2001, beside("\\x.a x", "\\x y.a"));
        abstractedTo(1999, beside("\\x y.a", "\\x.a x"));
    }

    /** 'all abstractions of a term go': one without any stays, however great. */
    private static void abstractedKeepsWhatHasNoAbstraction() {
        LambdaBench bench = letters(1999);
        bench.copy(0, 1);
        CHECKS.due("its size", bench.abstracted(0), 1999);
        CHECKS.due("it is the same", bench.same(0, 1), true);
        CHECKS.due("a letter", Checks.with("a").abstracted(0), 1);
        // 2,000 with an abstraction that takes nothing: \x.W x becomes W.
        LambdaBench great = letters(1997);
        great.copy(0, 1);
        Checks.read(great, 2, "x");
        great.apply(0, 2, 0);
        CHECKS.due("before", great.bind(0, 'x'), 2000);
        CHECKS.due("after", great.abstracted(0), 1997);
        CHECKS.due("it is W", great.same(0, 1), true);
    }

    /** 'with n steps at most (1 .. 400)' */
    private static void numeralTakes1To400Steps() {
        for (int n : NO_STEPS) {
            LambdaBench bench = Checks.with("#1");
            CHECKS.throwing("numeral by " + n, Checks.ARGUMENT, () -> bench.numeral(0, n));
            CHECKS.due("how stays", bench.how(), 0);
        }
        LambdaBench bench = Checks.with("#1", "I");
        CHECKS.due("1 step is too few", bench.numeral(0, 1), -2);
        CHECKS.due("2 steps", bench.numeral(0, 2), 1);
        CHECKS.due("400 steps", bench.numeral(0, 400), 1);
        CHECKS.due("1 step of I", bench.numeral(1, 1), 1);
    }

    /** Each I before the numeral is a step, and the numeral takes two. */
    private static void numeralUpTo400Steps() {
        for (int there = 398; there <= 402; there++) {
            LambdaBench bench = Checks.with("I".repeat(390) + "#3", "I");
            for (int i = 392; i < there; i++) {
                bench.apply(1, 0, 0);
            }
            bench.copy(0, 2);
            for (int n = 397; n <= 400; n++) {
                CHECKS.due(n + " of " + there, bench.numeral(0, n), there <= n ? 3 : -2);
                CHECKS.due("how of " + n + " of " + there, bench.how(), there <= n ? 1 : 2);
                CHECKS.due("the term stays", bench.same(0, 2), true);
            }
        }
    }

    /** 'IllegalStateException: there is no term' */
    private static void numeralOfNone() {
        LambdaBench bench = Checks.with("#1");
        CHECKS.throwing("none", Checks.STATE, () -> bench.numeral(1, 1));
        CHECKS.due("still none", bench.size(1), 0);
        CHECKS.due("a term", bench.numeral(0, 2), 1);
    }

    /** 'IllegalArgumentException: no such slot or n', be there a term or not, and however great. */
    private static void numeralWithoutSlotOrN() {
        LambdaBench bench = Checks.with("#1", Checks.sized(2000));
        for (int slot : NO_SLOTS) {
            CHECKS.throwing("numeral in " + slot, Checks.ARGUMENT, () -> bench.numeral(slot, 1));
            CHECKS.throwing("numeral 0 in " + slot, Checks.ARGUMENT, () -> bench.numeral(slot, 0));
        }
        for (int n : NO_STEPS) {
            CHECKS.throwing("numeral of none by " + n, Checks.ARGUMENT, () -> bench.numeral(2, n));
            CHECKS.throwing("numeral of 2000 by " + n, Checks.ARGUMENT, () -> bench.numeral(1, n));
        }
    }

    /** The Church numeral of 990 and a few more, in slot 0. */
    private static LambdaBench church(int number) {
        int more = number - 991;
        LambdaBench bench = Checks.with("#99f x", "#99f", "f(".repeat(more) + "f x" + ")".repeat(more));
        bench.reduce(0, 400);
        bench.reduce(1, 400);
        for (int i = 1; i < 10; i++) {
            bench.apply(1, 0, 0);
            bench.reduce(0, 1);
        }
        bench.bind(2, 'x');
        bench.apply(2, 0, 0);
        bench.reduce(0, 1);
        bench.bind(0, 'x');
        CHECKS.due("size of " + number, bench.bind(0, 'f'), 2 * number + 3);
        return bench;
    }

    /** 'IllegalStateException: ... it would be too great with both letters.' 'The term stays.' */
    private static void numeralUpTo2000WithBothLetters() {
        for (int size = 1990; size <= 2000; size++) {
            LambdaBench bench = Checks.with(Checks.sized(size));
            bench.copy(0, 1);
            Object answer = Checks.answerOf(() -> bench.numeral(0, 400));
            CHECKS.due("numeral of size " + size, answer, size <= 1996 ? (Object) (-1) : Checks.STATE);
            CHECKS.due("how of size " + size, bench.how(), size <= 1996 ? 1 : 0);
            CHECKS.due("it stays", bench.same(0, 1), true);
        }
        for (int number = 992; number <= 996; number++) {
            LambdaBench bench = church(number);
            CHECKS.due("numeral " + number, bench.numeral(0, 2), number);
            CHECKS.due("how of " + number, bench.how(), 1);
            CHECKS.due("one step of " + number, bench.numeral(0, 1), -2);
        }
        LambdaBench bench = church(997);
        CHECKS.throwing("numeral 997", Checks.STATE, () -> bench.numeral(0, 2));
        CHECKS.due("its term stays", bench.size(0), 1997);
    }

    /** '-1 when it settles otherwise' */
    private static void numeralSettlesOtherwise() {
        String[] texts = {
            "a", "S", "K", "K a", "\\f x.f", "\\f x.f f", "\\f x.x x", "\\f x.x f", "\\f x.f x x",
            "\\f x.f f x", "\\f x.f(x x)", "\\f x.f(f a)", "\\f x.a x", "\\f x y.f x", "\\f x.f(\\y.x)",
            "\\f x.a(f x)", "\\f x.f(a x)", "\\f x.K", "\\f x.S f x",
        };
        for (String text : texts) {
            LambdaBench bench = Checks.with(text);
            bench.copy(0, 1);
            CHECKS.due("numeral of " + text, bench.numeral(0, 400), -1);
            CHECKS.due("how of " + text, bench.how(), 1);
            CHECKS.due(text + " stays", bench.same(0, 1), true);
        }
        String[] numerals = {"#0", "\\f x.f x", "I", "K I", "\\f.I", "S(S(K S)K)I", "#99"};
        int[] numbers = {0, 1, 1, 0, 0, 2, 99};
        for (int i = 0; i < numerals.length; i++) {
            CHECKS.due("numeral of " + numerals[i], Checks.with(numerals[i]).numeral(0, 400), numbers[i]);
        }
    }

    /** '-2 without that (how() is 2 or 3). The term stays.' */
    private static void numeralDoesNotSettle() {
        String[] texts = {"(\\x.x x)(\\x.x x)", "(\\x.x x x)(\\x.x x x)", "#99#99", "(\\x.x x)" + part(1000)};
        int[] hows = {2, 3, 3, 3};
        for (int i = 0; i < texts.length; i++) {
            LambdaBench bench = Checks.with(texts[i]);
            bench.copy(0, 1);
            CHECKS.due("numeral of " + texts[i], bench.numeral(0, 400), -2);
            CHECKS.due("how of " + texts[i], bench.how(), hows[i]);
            CHECKS.due(texts[i] + " stays", bench.same(0, 1), true);
        }
        // With the letters the step is too great, without them it is not.
        LambdaBench bench = Checks.with("(\\x.x x)" + part(998), "(\\x.x x)" + part(997));
        CHECKS.due("2001 with the letters", bench.numeral(0, 400), -2);
        CHECKS.due("too great", bench.how(), 3);
        CHECKS.due("1999 with the letters", bench.numeral(1, 400), -1);
        CHECKS.due("settled", bench.how(), 1);
        CHECKS.due("1997 without them", bench.reduce(0, 1), 1);
    }
}
