/** Promise 13: abstracted. */
public final class AbstractionTest {
    private static final Checks CHECKS = new Checks();

    public static void main(String[] args) {
        rules();
        oneByOne();
        actsLikeTheTerm();
        tooGreatAtTheEnd();
        tooGreatOnTheWay();
        refuses();
        CHECKS.end();
    }

    private static void becomes(String text, String row) {
        LambdaBench bench = Checks.with(text);
        CHECKS.due("abstracted of " + text, bench.abstracted(0), row.length());
        CHECKS.due("its row, of " + text, Checks.row(bench, 0), row);
        CHECKS.due("its size, of " + text, bench.size(0), row.length());
    }

    private static void rules() {
        becomes("a", "a");
        becomes("S a(K I b)", "@@Sa@@KIb");
        becomes("\\x.x", "I");
        becomes("\\x.a", "@Ka");
        becomes("\\x.S", "@KS");
        becomes("\\x.a b", "@K@ab");
        becomes("\\x.a x", "a");
        becomes("\\x.a b x", "@ab");
        becomes("\\x.x x", "@@SII");
        becomes("\\x.x a", "@@SI@Ka");
        becomes("\\x.a(b x)", "@@S@Kab");
        becomes("\\x.a x x", "@@SaI");
        becomes("\\x.x a x", "@@S@@SI@KaI");
        becomes("\\x.a(x b)", "@@S@Ka@@SI@Kb");
        becomes("\\x.a x(b x)", "@@Sab");
        becomes("(\\x.x)a(\\x.x)", "@@IaI");
    }

    private static void oneByOne() {
        becomes("\\x y.x", "K");
        becomes("\\x y.y", "@KI");
        becomes("\\x y.x y", "I");
        becomes("\\x y.y x", "@@S@K@SIK");
        becomes("\\x y z.x z(y z)", "S");
        becomes("\\x.a(\\y.x y)", "a");
        becomes("\\x.a(\\y.b x y)", "@@S@Kab");
        becomes("\\x y z.a", "@K@K@Ka");
        becomes("#0", "@KI");
        becomes("#1", "I");
        becomes("#2", "@@S@@S@KSKI");
        becomes("\\a.\\b.\\c.\\d.e(\\f.a b c d f)", "@S@K@S@K@S@Ke");
        becomes("(\\x.a x)((\\y.b)c)(\\z w.w)", "@@a@@Kbc@KI");
    }

    /** An abstracted term, applied, must settle where the term itself does. */
    private static void actsLikeTheTerm() {
        String[] texts = {
            "(\\x y z.z y x)", "(\\x y z.x(y(z x))(\\w.w z y))", "(\\x y.x(\\a.y a(\\b.b a x)))",
            "(\\x y z w.w(x y)(z w y x))", "(\\x.\\y.\\z.(\\w.w w)(x y z))",
        };
        for (String text : texts) {
            LambdaBench bench = Checks.with(text);
            Checks.read(bench, 1, text + "a b c d");
            bench.abstracted(0);
            CHECKS.due("no abstraction in " + text, Checks.row(bench, 0).indexOf('\\'), -1);
            for (char letter = 'a'; letter <= 'd'; letter++) {
                Checks.read(bench, 2, "" + letter);
                bench.apply(0, 2, 0);
            }
            bench.reduce(0, 400);
            bench.reduce(1, 400);
            bench.abstracted(1);
            bench.abstracted(0);
            CHECKS.due("settled " + text, bench.how(), 1);
            CHECKS.due("ends of " + text, Checks.row(bench, 0), Checks.row(bench, 1));
        }
    }

    private static void tooGreatAtTheEnd() {
        LambdaBench bench = new LambdaBench();
        Checks.fill(bench, 0, 1997);
        bench.bind(0, 'x');
        CHECKS.due("to 1999", bench.abstracted(0), 1999);
        Checks.fill(bench, 0, 1999);
        bench.bind(0, 'x');
        bench.copy(0, 1);
        CHECKS.throwing("to 2001", Checks.STATE, () -> bench.abstracted(0));
        CHECKS.due("it stays", bench.same(0, 1), true);
        Checks.fill(bench, 0, 999);
        bench.bind(0, 'a');
        CHECKS.due("to 1997", bench.abstracted(0), 1997);
        Checks.fill(bench, 0, 1001);
        bench.bind(0, 'a');
        bench.copy(0, 1);
        CHECKS.throwing("from 1002 to 2001", Checks.STATE, () -> bench.abstracted(0));
        CHECKS.due("it stays", bench.same(0, 1), true);
    }

    /** \y.(\x.a)(\x.a) W y: the inner ones add 1 each, then the outer one takes 3 away. */
    private static LambdaBench growing(int size) {
        LambdaBench bench = Checks.with("(\\x.a)(\\x.a)");
        Checks.fill(bench, 1, size - 9);
        Checks.read(bench, 2, "y");
        bench.apply(0, 1, 0);
        bench.apply(0, 2, 0);
        CHECKS.due("size", bench.bind(0, 'y'), size);
        return bench;
    }

    private static void tooGreatOnTheWay() {
        CHECKS.due("2000 on the way", growing(1998).abstracted(0), 1997);
        LambdaBench bench = growing(2000);
        bench.copy(0, 1);
        CHECKS.throwing("2001 on the way", Checks.STATE, () -> bench.abstracted(0));
        CHECKS.due("it stays", bench.same(0, 1), true);
        CHECKS.due("its size stays", bench.size(0), 2000);
    }

    private static void refuses() {
        LambdaBench bench = Checks.with("\\x.x");
        for (int slot : new int[] {-1, 12, Integer.MAX_VALUE, Integer.MIN_VALUE}) {
            CHECKS.throwing("abstracted", Checks.ARGUMENT, () -> bench.abstracted(slot));
        }
        CHECKS.throwing("abstracted of none", Checks.STATE, () -> bench.abstracted(1));
        CHECKS.due("the term stays", Checks.row(bench, 0), "\\0");
    }
}
