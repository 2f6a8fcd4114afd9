/** Promises 5 to 9, 15 and 16: size, print, copy, apply, bind, same, has. */
public final class SlotTest {
    private static final int[] NO_SLOTS = {-1, 12, 13, Integer.MAX_VALUE, Integer.MIN_VALUE};
    private static final int[] NO_LETTERS = {0, 'A', 'S', 96, 123, -97, 97 + 256, Integer.MIN_VALUE};
    private static final Checks CHECKS = new Checks();

    public static void main(String[] args) {
        sizes();
        prints();
        printsGreatIndices();
        copies();
        applies();
        appliesUpToTheLimit();
        binds();
        bindsUpToTheLimit();
        compares();
        comparesGreatIndices();
        findsLetters();
        refusesSlots();
        refusesLetters();
        CHECKS.end();
    }

    private static void sizes() {
        LambdaBench bench = Checks.with("(\\x y.x y)(\\z.y z)a");
        CHECKS.due("size", bench.size(0), 12);
        CHECKS.due("size of none", bench.size(1), 0);
        CHECKS.due("size of a letter", Checks.with("a").size(0), 1);
        CHECKS.due("size of an abstraction", Checks.with("\\x.S").size(0), 2);
        CHECKS.due("size of an application", Checks.with("K I").size(0), 3);
    }

    private static void prints() {
        LambdaBench bench = Checks.with("\\x.x(S K I)z");
        int[] row = {92, 64, 64, 48, 64, 64, 83, 75, 73, 122};
        for (int i = 0; i < row.length; i++) {
            CHECKS.due("print " + i, bench.print(0, i), row[i]);
        }
        for (int i : new int[] {-1, row.length, 2000, Integer.MAX_VALUE, Integer.MIN_VALUE}) {
            CHECKS.throwing("print " + i, Checks.BOUNDS, () -> bench.print(0, i));
        }
        CHECKS.throwing("print of none", Checks.BOUNDS, () -> bench.print(1, 0));
    }

    private static int printedIndex(int index) {
        LambdaBench bench = Checks.with("\\a" + "b".repeat(index) + ".a");
        return bench.print(0, index + 1);
    }

    private static void printsGreatIndices() {
        CHECKS.due("index 0", printedIndex(0), 48);
        CHECKS.due("index 42", printedIndex(42), 90);
        CHECKS.due("index 98", printedIndex(98), 146);
        CHECKS.due("index 99", printedIndex(99), 147);
        CHECKS.due("index 100", printedIndex(100), 147);
        CHECKS.due("index 396", printedIndex(396), 147);
    }

    private static void copies() {
        LambdaBench bench = Checks.with("a b");
        bench.copy(0, 11);
        CHECKS.due("the copy", Checks.row(bench, 11), "@ab");
        bench.bind(0, 'a');
        CHECKS.due("the copy is its own", Checks.row(bench, 11), "@ab");
        bench.copy(0, 0);
        CHECKS.due("a copy to itself", Checks.row(bench, 0), "\\@0b");
        bench.copy(0, 11);
        CHECKS.due("a copy over a term", Checks.row(bench, 11), "\\@0b");
        bench.copy(5, 11);
        CHECKS.due("a copy of none", bench.size(11), 0);
        bench.copy(5, 6);
        CHECKS.due("a copy of none to none", bench.size(6), 0);
        CHECKS.due("the first one stays", Checks.row(bench, 0), "\\@0b");
    }

    private static void applies() {
        LambdaBench bench = Checks.with("\\x.x");
        Checks.read(bench, 1, "a b");
        CHECKS.due("apply", bench.apply(0, 1, 2), 6);
        CHECKS.due("its row", Checks.row(bench, 2), "@\\0@ab");
        CHECKS.due("apply into f", bench.apply(0, 1, 0), 6);
        CHECKS.due("its row", Checks.row(bench, 0), "@\\0@ab");
        CHECKS.due("apply into a", bench.apply(0, 1, 1), 10);
        CHECKS.due("its row", Checks.row(bench, 1), "@@\\0@ab@ab");
        CHECKS.due("apply to itself, there", bench.apply(0, 0, 0), 13);
        CHECKS.due("its row", Checks.row(bench, 0), "@@\\0@ab@\\0@ab");
        CHECKS.throwing("f is none", Checks.STATE, () -> bench.apply(7, 0, 2));
        CHECKS.throwing("a is none", Checks.STATE, () -> bench.apply(0, 7, 2));
        CHECKS.throwing("both are none", Checks.STATE, () -> bench.apply(7, 7, 7));
        CHECKS.due("the slot stays", Checks.row(bench, 2), "@\\0@ab");
    }

    private static void appliesUpToTheLimit() {
        LambdaBench bench = new LambdaBench();
        Checks.fill(bench, 0, 999);
        Checks.read(bench, 1, "I");
        bench.copy(0, 2);
        bench.bind(2, 'x');
        CHECKS.due("1999", bench.apply(0, 0, 3), 1999);
        CHECKS.due("2000", bench.apply(0, 2, 3), 2000);
        CHECKS.throwing("2001", Checks.STATE, () -> bench.apply(2, 2, 3));
        CHECKS.throwing("2002", Checks.STATE, () -> bench.apply(3, 1, 1));
        CHECKS.throwing("4001", Checks.STATE, () -> bench.apply(3, 3, 3));
        CHECKS.due("the slot stays", bench.size(3), 2000);
        CHECKS.due("slot 1 stays", bench.size(1), 1);
    }

    private static void binds() {
        LambdaBench bench = Checks.with("x y(\\z.x z(\\x.x y))x");
        CHECKS.due("bind x", bench.bind(0, 'x'), 16);
        CHECKS.due("its row", Checks.row(bench, 0), "\\@@@0y\\@@10\\@0y0");
        CHECKS.due("bind y", bench.bind(0, 'y'), 17);
        CHECKS.due("its row", Checks.row(bench, 0), "\\\\@@@01\\@@10\\@030");
        CHECKS.due("bind a letter that is not there", bench.bind(0, 'z'), 18);
        CHECKS.due("its row", Checks.row(bench, 0), "\\\\\\@@@01\\@@10\\@030");
        CHECKS.throwing("bind in none", Checks.STATE, () -> bench.bind(1, 'x'));
        LambdaBench ends = Checks.with("a z");
        ends.bind(0, 'a');
        ends.bind(0, 'z');
        CHECKS.due("bind a and z", Checks.row(ends, 0), "\\\\@01");
    }

    private static void bindsUpToTheLimit() {
        LambdaBench bench = new LambdaBench();
        Checks.fill(bench, 0, 1999);
        CHECKS.due("2000", bench.bind(0, 'a'), 2000);
        CHECKS.throwing("2001", Checks.STATE, () -> bench.bind(0, 'b'));
        CHECKS.due("the term stays", bench.size(0), 2000);
        CHECKS.due("a is bound", bench.print(0, 1999), 48);
    }

    private static void compares() {
        LambdaBench bench = Checks.with("\\x y.x y z");
        Checks.read(bench, 1, "\\a b.a b z");
        Checks.read(bench, 2, "\\a b.b a z");
        Checks.read(bench, 3, "\\a b.a b y");
        Checks.read(bench, 4, "\\f x.f x");
        Checks.read(bench, 5, "#1");
        Checks.read(bench, 6, "\\f x.f x x");
        CHECKS.due("other names", bench.same(0, 1), true);
        CHECKS.due("itself", bench.same(0, 0), true);
        CHECKS.due("other indices", bench.same(0, 2), false);
        CHECKS.due("another letter", bench.same(0, 3), false);
        CHECKS.due("a numeral", bench.same(4, 5), true);
        CHECKS.due("another size", bench.same(5, 6), false);
        Checks.read(bench, 7, "a");
        Checks.read(bench, 8, "b");
        CHECKS.due("letters", bench.same(7, 8), false);
        CHECKS.due("none and a term", bench.same(9, 0), false);
        CHECKS.due("a term and none", bench.same(0, 9), false);
        CHECKS.due("none and none", bench.same(9, 10), true);
        CHECKS.due("the same slot of none", bench.same(9, 9), true);
    }

    private static void comparesGreatIndices() {
        LambdaBench bench = Checks.with("\\a" + "b".repeat(150) + ".a");
        Checks.read(bench, 1, "\\ca" + "b".repeat(149) + ".a");
        Checks.read(bench, 2, "\\c" + "a".repeat(150) + ".c");
        CHECKS.due("149 is printed as 150", bench.print(0, 151) == bench.print(1, 151), true);
        CHECKS.due("149 is not 150", bench.same(0, 1), false);
        CHECKS.due("150 is 150", bench.same(0, 2), true);
    }

    private static void findsLetters() {
        LambdaBench bench = Checks.with("a(\\x.x z y)");
        CHECKS.due("has a", bench.has(0, 'a'), true);
        CHECKS.due("has z", bench.has(0, 'z'), true);
        CHECKS.due("has y, the last", bench.has(0, 'y'), true);
        CHECKS.due("has x", bench.has(0, 'x'), false);
        CHECKS.due("has b", bench.has(0, 'b'), false);
        CHECKS.due("has in none", bench.has(1, 'a'), false);
        bench.bind(0, 'a');
        CHECKS.due("has a no more", bench.has(0, 'a'), false);
        Checks.read(bench, 2, "a b c");
        Checks.read(bench, 2, "a");
        CHECKS.due("has its only letter", bench.has(2, 'a'), true);
        for (char letter = 'b'; letter <= 'z'; letter++) {
            CHECKS.due("has no letter of the term before", bench.has(2, letter), false);
        }
        Checks.read(bench, 3, "a b");
        Checks.read(bench, 3, "c");
        CHECKS.due("has a of the term before", bench.has(3, 'a'), false);
        LambdaBench index = Checks.with("\\x" + "y".repeat(60) + ".x");
        CHECKS.due("index 60 is no letter", index.has(0, 'l'), false);
    }

    private static void refusesSlots() {
        LambdaBench bench = Checks.with("a");
        for (int slot : NO_SLOTS) {
            CHECKS.throwing("size", Checks.ARGUMENT, () -> bench.size(slot));
            CHECKS.throwing("print", Checks.ARGUMENT, () -> bench.print(slot, 0));
            CHECKS.throwing("print, no place", Checks.ARGUMENT, () -> bench.print(slot, -1));
            CHECKS.throwing("copy from", Checks.ARGUMENT, () -> bench.copy(slot, 1));
            CHECKS.throwing("copy to", Checks.ARGUMENT, () -> bench.copy(0, slot));
            CHECKS.throwing("apply f", Checks.ARGUMENT, () -> bench.apply(slot, 0, 0));
            CHECKS.throwing("apply a", Checks.ARGUMENT, () -> bench.apply(0, slot, 0));
            CHECKS.throwing("apply to", Checks.ARGUMENT, () -> bench.apply(0, 0, slot));
            CHECKS.throwing("apply to, none", Checks.ARGUMENT, () -> bench.apply(1, 1, slot));
            CHECKS.throwing("bind", Checks.ARGUMENT, () -> bench.bind(slot, 'a'));
            CHECKS.throwing("same a", Checks.ARGUMENT, () -> bench.same(slot, 0));
            CHECKS.throwing("same b", Checks.ARGUMENT, () -> bench.same(0, slot));
            CHECKS.throwing("has", Checks.ARGUMENT, () -> bench.has(slot, 'a'));
        }
        CHECKS.due("the term stays", Checks.row(bench, 0), "a");
        CHECKS.due("slot 1 stays", bench.size(1), 0);
    }

    private static void refusesLetters() {
        LambdaBench bench = Checks.with("S a");
        for (int letter : NO_LETTERS) {
            CHECKS.throwing("bind " + letter, Checks.ARGUMENT, () -> bench.bind(0, letter));
            CHECKS.throwing("bind in none " + letter, Checks.ARGUMENT, () -> bench.bind(1, letter));
            CHECKS.throwing("has " + letter, Checks.ARGUMENT, () -> bench.has(0, letter));
            CHECKS.throwing("has in none " + letter, Checks.ARGUMENT, () -> bench.has(1, letter));
        }
        CHECKS.due("the term stays", Checks.row(bench, 0), "@Sa");
    }
}
