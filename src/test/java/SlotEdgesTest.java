/**
 * Every sentence on slots that names a bound or a refused call, on both sides of the bound: those
 * of 'Terms', and promises 5 to 9, 15 and 16. Above each test stands the sentence that it holds to.
 */
public final class SlotEdgesTest {
    private static final int[] NO_SLOTS = {-1, 12, 13, 256, Integer.MAX_VALUE, Integer.MIN_VALUE};
    private static final int[] NO_LETTERS = {
        96, 123, 0, -97, 65, 83, 64, 48, 92, 97 + 256, 1000, Integer.MAX_VALUE, Integer.MIN_VALUE,
    };
    private static final Checks CHECKS = new Checks();

    public static void main(String[] args) {
        slots0To11();
        sizeOfNone();
        sizesOfEachKind();
        sizeWithoutSlot();
        printHasNumbers0ToSizeLessOne();
        printOfNone();
        printFollowsTheTerm();
        printWithoutSlot();
        printOfIndices99AndAbove();
        copyToTheSameOne();
        copyOfNone();
        copyWithoutSlots();
        applyToTheSameOnes();
        applyOfNone();
        applyUpTo2000();
        applyWithoutSlots();
        bindLetters97To122();
        bindInNone();
        bindUpTo2000();
        bindWithoutSlotOrLetter();
        bindBelowMoreThan99Abstractions();
        sameOfNone();
        sameButForNames();
        sameToTheLastNumber();
        sameWithoutSlots();
        hasLetters97To122();
        hasInNone();
        hasNoNamesOfBoundVariables();
        hasWithoutSlotOrLetter();
        CHECKS.end();
    }

    /** 'SLOTS 0 .. 11 have a term or none.' */
    private static void slots0To11() {
        LambdaBench bench = new LambdaBench();
        for (int slot = 0; slot < 12; slot++) {
            Checks.read(bench, slot, "I" + (char) ('a' + slot));
        }
        for (int slot = 0; slot < 12; slot++) {
            int letter = 'a' + slot;
            CHECKS.due("size in " + slot, bench.size(slot), 3);
            CHECKS.due("print in " + slot, bench.print(slot, 2), letter);
            CHECKS.due("same in " + slot, bench.same(slot, 11 - slot), false);
            CHECKS.due("has in " + slot, bench.has(slot, letter), true);
            CHECKS.due("redexes in " + slot, bench.redexes(slot), 1);
            CHECKS.due("reduce in " + slot, bench.reduce(slot, 1), 1);
            CHECKS.due("bind in " + slot, bench.bind(slot, 'z'), 2);
            CHECKS.due("numeral in " + slot, bench.numeral(slot, 9), -1);
            CHECKS.due("abstracted in " + slot, bench.abstracted(slot), 3);
            CHECKS.due("row in " + slot, Checks.row(bench, slot), "@K" + (char) letter);
            CHECKS.due("apply in " + slot, bench.apply(slot, slot, slot), 7);
        }
        bench.copy(0, 11);
        CHECKS.due("copy of the first to the last", bench.same(11, 0), true);
        bench.copy(10, 0);
        CHECKS.due("copy to the first", bench.same(10, 0), true);
    }

    /** 'The size of a slot's term, 0 of none.' */
    private static void sizeOfNone() {
        LambdaBench bench = Checks.with("a");
        CHECKS.due("of the least term", bench.size(0), 1);
        CHECKS.due("of none", bench.size(1), 0);
        Checks.read(bench, 0, Checks.sized(2000));
        CHECKS.due("of the greatest term", bench.size(0), 2000);
        bench.copy(1, 0);
        CHECKS.due("of none again", bench.size(0), 0);
    }

    /** 'SIZE is 1 for a variable or combinator, 1 and its body's ..., 1 and both parts' ...' */
    private static void sizesOfEachKind() {
        String[] texts = {"a", "S", "K", "I", "\\x.x", "\\x.\\y.x", "a b", "a b c", "#0", "#1", "#99"};
        int[] sizes = {1, 1, 1, 1, 2, 3, 3, 5, 3, 5, 201};
        for (int i = 0; i < texts.length; i++) {
            CHECKS.due("size of " + texts[i], Checks.with(texts[i]).size(0), sizes[i]);
        }
    }

    /** 'IllegalArgumentException: no such slot.' */
    private static void sizeWithoutSlot() {
        LambdaBench bench = Checks.with("a");
        for (int slot : NO_SLOTS) {
            CHECKS.throwing("size of " + slot, Checks.ARGUMENT, () -> bench.size(slot));
        }
    }

    /** 'Number i of its printing. ... IndexOutOfBoundsException: there is none.' */
    private static void printHasNumbers0ToSizeLessOne() {
        for (int size : new int[] {1, 3, 4, 1999, 2000}) {
            LambdaBench bench = Checks.with(Checks.sized(size));
            CHECKS.throwing("print -1 of " + size, Checks.BOUNDS, () -> bench.print(0, -1));
            CHECKS.due("print 0 of " + size, bench.print(0, 0), size == 1 ? 97 : 64);
            CHECKS.due("last print of " + size, bench.print(0, size - 1) > 0, true);
            for (int i : new int[] {size, size + 1, 2000, 2001, Integer.MAX_VALUE, Integer.MIN_VALUE}) {
                CHECKS.throwing("print " + i + " of " + size, Checks.BOUNDS, () -> bench.print(0, i));
            }
        }
    }

    /** 'IndexOutOfBoundsException: there is none.' */
    private static void printOfNone() {
        LambdaBench bench = new LambdaBench();
        for (int i : new int[] {0, -1, 1, 2000}) {
            CHECKS.throwing("print " + i, Checks.BOUNDS, () -> bench.print(0, i));
        }
        Checks.read(bench, 0, "a b");
        bench.copy(1, 0);
        CHECKS.throwing("print of none again", Checks.BOUNDS, () -> bench.print(0, 0));
    }

    /** A term that has become smaller has no numbers of the greater one. */
    private static void printFollowsTheTerm() {
        LambdaBench bench = Checks.with("I a b");
        CHECKS.due("print 4", bench.print(0, 4), 98);
        CHECKS.throwing("print 5", Checks.BOUNDS, () -> bench.print(0, 5));
        bench.reduce(0, 1);
        CHECKS.due("print 2", bench.print(0, 2), 98);
        CHECKS.throwing("print 3", Checks.BOUNDS, () -> bench.print(0, 3));
        bench.bind(0, 'b');
        CHECKS.due("print 3 now", bench.print(0, 3), 48);
        CHECKS.throwing("print 4", Checks.BOUNDS, () -> bench.print(0, 4));
        bench.abstracted(0);
        CHECKS.due("print 0", bench.print(0, 0), 97);
        CHECKS.throwing("print 1", Checks.BOUNDS, () -> bench.print(0, 1));
    }

    /** 'IllegalArgumentException: no such slot', whatever i is. */
    private static void printWithoutSlot() {
        LambdaBench bench = Checks.with("a");
        for (int slot : NO_SLOTS) {
            for (int i : new int[] {0, -1, 1, 2000}) {
                CHECKS.throwing("print of " + slot, Checks.ARGUMENT, () -> bench.print(slot, i));
            }
        }
    }

    /** 'a bound variable 48 plus its index (48 + 99 for 99 and above)' */
    private static void printOfIndices99AndAbove() {
        for (int index = 0; index <= 396; index++) {
            LambdaBench bench = Checks.with("\\a" + "b".repeat(index) + ".a");
            int due = index < 99 ? 48 + index : 48 + 99;
            CHECKS.due("index " + index, bench.print(0, index + 1), due);
            CHECKS.due("in front of it", bench.print(0, index), 92);
        }
    }

    /** 'A copy of a slot's term to another one (or the same one' */
    private static void copyToTheSameOne() {
        LambdaBench bench = Checks.with("a b", "c");
        bench.copy(0, 0);
        CHECKS.due("to the same one", Checks.row(bench, 0), "@ab");
        bench.copy(0, 1);
        CHECKS.due("to another one", Checks.row(bench, 1), "@ab");
        CHECKS.due("the first one stays", Checks.row(bench, 0), "@ab");
        bench.bind(1, 'a');
        CHECKS.due("the copy changes", Checks.row(bench, 1), "\\@0b");
        CHECKS.due("alone", Checks.row(bench, 0), "@ab");
        Checks.read(bench, 2, Checks.sized(2000));
        bench.copy(2, 2);
        bench.copy(2, 0);
        CHECKS.due("of the greatest term", bench.size(0), 2000);
        CHECKS.due("it is like the first one", bench.same(2, 0), true);
    }

    /** 'of none, none' */
    private static void copyOfNone() {
        LambdaBench bench = Checks.with("a b");
        bench.copy(5, 6);
        CHECKS.due("none to none", bench.size(6), 0);
        bench.copy(5, 5);
        CHECKS.due("none to itself", bench.size(5), 0);
        bench.copy(5, 0);
        CHECKS.due("none over a term", bench.size(0), 0);
        CHECKS.throwing("it has no term any more", Checks.STATE, () -> bench.redexes(0));
    }

    /** 'IllegalArgumentException: no such slots.' */
    private static void copyWithoutSlots() {
        LambdaBench bench = Checks.with("a b");
        for (int slot : NO_SLOTS) {
            CHECKS.throwing("from " + slot, Checks.ARGUMENT, () -> bench.copy(slot, 0));
            CHECKS.throwing("to " + slot, Checks.ARGUMENT, () -> bench.copy(0, slot));
            CHECKS.throwing("none to " + slot, Checks.ARGUMENT, () -> bench.copy(1, slot));
            CHECKS.throwing("from and to " + slot, Checks.ARGUMENT, () -> bench.copy(slot, slot));
            CHECKS.due("the term stays", Checks.row(bench, 0), "@ab");
        }
    }

    private static void applied(int f, int a, int to, String row) {
        LambdaBench bench = Checks.with("a b", "c", "d");
        String[] rows = {"@ab", "c", "d"};
        String what = "apply " + f + " " + a + " " + to;
        CHECKS.due(what, bench.apply(f, a, to), row.length());
        rows[to] = row;
        for (int slot = 0; slot < 3; slot++) {
            CHECKS.due("slot " + slot + " after " + what, Checks.row(bench, slot), rows[slot]);
        }
    }

    /** 'into a slot (each may be the same one): its size' */
    private static void applyToTheSameOnes() {
        applied(0, 1, 2, "@@abc");
        applied(0, 1, 0, "@@abc");
        applied(0, 1, 1, "@@abc");
        applied(1, 0, 1, "@c@ab");
        applied(1, 0, 0, "@c@ab");
        applied(0, 0, 2, "@@ab@ab");
        applied(0, 0, 0, "@@ab@ab");
    }

    /** 'IllegalStateException: there are none' */
    private static void applyOfNone() {
        LambdaBench bench = Checks.with("a b");
        int[][] nones = {{1, 0, 0}, {0, 1, 0}, {1, 1, 0}, {1, 2, 0}, {1, 0, 1}, {0, 1, 1}, {1, 1, 1}};
        for (int[] slots : nones) {
            CHECKS.throwing("apply of none", Checks.STATE,
                () -> bench.apply(slots[0], slots[1], slots[2]));
            CHECKS.due("the term stays", Checks.row(bench, 0), "@ab");
            CHECKS.due("none stays", bench.size(1), 0);
        }
        CHECKS.due("the slot for it may be none", bench.apply(0, 0, 1), 7);
    }

    private static void appliedSizes(int f, int a) {
        LambdaBench bench = Checks.with(Checks.sized(f), Checks.sized(a), "k");
        int size = 1 + f + a;
        Object answer = Checks.answerOf(() -> bench.apply(0, 1, 2));
        CHECKS.due(f + " and " + a, answer, size <= 2000 ? (Object) size : Checks.STATE);
        CHECKS.due("the slot then", bench.size(2), size <= 2000 ? size : 1);
        CHECKS.due("f stays", bench.size(0), f);
        CHECKS.due("a stays", bench.size(1), a);
        Object intoF = Checks.answerOf(() -> bench.apply(0, 1, 0));
        CHECKS.due("into f", intoF, answer);
        CHECKS.due("f then", bench.size(0), size <= 2000 ? size : f);
    }

    /** 'IllegalStateException: ... it is too great.' 'No term is greater than 2,000.' */
    private static void applyUpTo2000() {
        appliedSizes(999, 999);
        appliedSizes(1000, 999);
        appliedSizes(999, 1000);
        appliedSizes(1000, 1000);
        appliedSizes(1998, 1);
        appliedSizes(1, 1998);
        appliedSizes(1999, 1);
        appliedSizes(1, 1999);
        appliedSizes(2000, 1);
        appliedSizes(1, 2000);
        appliedSizes(2000, 2000);
        LambdaBench bench = Checks.with(Checks.sized(999), Checks.sized(1000));
        CHECKS.due("999 on itself", bench.apply(0, 0, 0), 1999);
        bench.copy(1, 2);
        CHECKS.throwing("1000 on itself", Checks.STATE, () -> bench.apply(1, 1, 1));
        CHECKS.due("it stays", bench.same(1, 2), true);
    }

    /** 'IllegalArgumentException: no such slots', be there terms or not. */
    private static void applyWithoutSlots() {
        LambdaBench bench = Checks.with("a b", Checks.sized(2000));
        for (int slot : NO_SLOTS) {
            for (int other = 0; other < 3; other++) {
                int here = other;
                CHECKS.throwing("f " + slot, Checks.ARGUMENT, () -> bench.apply(slot, here, 0));
                CHECKS.throwing("a " + slot, Checks.ARGUMENT, () -> bench.apply(here, slot, 0));
                CHECKS.throwing("to " + slot, Checks.ARGUMENT, () -> bench.apply(here, here, slot));
            }
            CHECKS.due("the term stays", Checks.row(bench, 0), "@ab");
        }
    }

    /** 'The abstraction of a letter in a slot's term (97 .. 122), there: its size.' */
    private static void bindLetters97To122() {
        for (int letter = 97; letter <= 122; letter++) {
            LambdaBench bench = Checks.with("abcdefghijklmnopqrstuvwxyz");
            CHECKS.due("bind " + letter, bench.bind(0, letter), 52);
            int place = 26 + letter - 97;
            CHECKS.due("the letter is bound", bench.print(0, place), 48);
            CHECKS.due("the one before is not", bench.print(0, place - 1), letter == 97 ? 64 : letter - 1);
            CHECKS.due("it is no letter now", bench.has(0, letter), false);
        }
        LambdaBench bench = Checks.with("a");
        CHECKS.due("a letter that is not there", bench.bind(0, 122), 2);
        CHECKS.due("its row", Checks.row(bench, 0), "\\a");
    }

    /** 'IllegalStateException: there is none' */
    private static void bindInNone() {
        LambdaBench bench = new LambdaBench();
        CHECKS.throwing("bind in none", Checks.STATE, () -> bench.bind(0, 'a'));
        CHECKS.due("none stays", bench.size(0), 0);
    }

    /** 'IllegalStateException: ... it is too great.' */
    private static void bindUpTo2000() {
        LambdaBench bench = Checks.with(Checks.sized(1998));
        CHECKS.due("1999", bench.bind(0, 'a'), 1999);
        CHECKS.due("2000", bench.bind(0, 'a'), 2000);
        bench.copy(0, 1);
        CHECKS.throwing("2001", Checks.STATE, () -> bench.bind(0, 'a'));
        CHECKS.due("it stays", bench.same(0, 1), true);
        Checks.read(bench, 2, Checks.sized(2000));
        CHECKS.throwing("2001 again", Checks.STATE, () -> bench.bind(2, 'a'));
        CHECKS.due("its letter stays", bench.has(2, 'a'), true);
        CHECKS.due("its size stays", bench.size(2), 2000);
    }

    /** 'IllegalArgumentException: no such slot or letter', be there a term or not. */
    private static void bindWithoutSlotOrLetter() {
        LambdaBench bench = Checks.with("S a", Checks.sized(2000));
        for (int slot : NO_SLOTS) {
            CHECKS.throwing("bind in " + slot, Checks.ARGUMENT, () -> bench.bind(slot, 'a'));
            CHECKS.throwing("bind 0 in " + slot, Checks.ARGUMENT, () -> bench.bind(slot, 0));
        }
        for (int letter : NO_LETTERS) {
            CHECKS.throwing("bind " + letter, Checks.ARGUMENT, () -> bench.bind(0, letter));
            CHECKS.throwing("bind in 2000 " + letter, Checks.ARGUMENT, () -> bench.bind(1, letter));
            CHECKS.throwing("bind in none " + letter, Checks.ARGUMENT, () -> bench.bind(2, letter));
        }
        CHECKS.due("the term stays", Checks.row(bench, 0), "@Sa");
    }

    /** The index of a letter that is bound from far outside is above 99, too. */
    private static void bindBelowMoreThan99Abstractions() {
        for (int deep : new int[] {98, 99, 100, 300}) {
            LambdaBench bench = Checks.with("\\" + "b".repeat(deep) + ".a", "\\a" + "b".repeat(deep) + ".a",
                "\\ba" + "b".repeat(deep - 1) + ".a");
            bench.bind(0, 'a');
            CHECKS.due("print below " + deep, bench.print(0, deep + 1), 48 + Math.min(99, deep));
            CHECKS.due("its index below " + deep, bench.same(0, 1), true);
            CHECKS.due("no other index below " + deep, bench.same(0, 2), false);
        }
    }

    /** 'Whether both slots have the same term ... (or both none).' */
    private static void sameOfNone() {
        LambdaBench bench = Checks.with("a");
        CHECKS.due("both none", bench.same(1, 11), true);
        CHECKS.due("the same none", bench.same(1, 1), true);
        CHECKS.due("none and a term", bench.same(1, 0), false);
        CHECKS.due("a term and none", bench.same(0, 1), false);
        CHECKS.due("the same slot", bench.same(0, 0), true);
        bench.copy(1, 0);
        CHECKS.due("both none now", bench.same(0, 1), true);
    }

    /** 'but for names of bound variables' */
    private static void sameButForNames() {
        LambdaBench bench = Checks.with("\\x y.x z", "\\y z.y z", "\\a b.a z", "\\x y.x x", "\\x y.x y");
        CHECKS.due("other names", bench.same(0, 2), true);
        CHECKS.due("z is bound in one", bench.same(0, 1), false);
        CHECKS.due("another variable", bench.same(3, 4), false);
        CHECKS.due("the same as #1", bench.same(1, 4), true);
        Checks.read(bench, 5, "z");
        Checks.read(bench, 6, "y");
        CHECKS.due("letters that are not bound", bench.same(5, 6), false);
        bench.bind(5, 'z');
        bench.bind(6, 'y');
        CHECKS.due("bound", bench.same(5, 6), true);
    }

    /** Terms that differ in their last number alone, or are printed alike, are not the same. */
    private static void sameToTheLastNumber() {
        LambdaBench bench = Checks.with(Checks.sized(1998) + "a", Checks.sized(1998) + "b", "a b", "a");
        CHECKS.due("size 2000", bench.size(0) + bench.size(1), 4000);
        CHECKS.due("the last of 2000", bench.same(0, 1), false);
        CHECKS.due("another size", bench.same(2, 3), false);
        Checks.read(bench, 4, "\\xx" + "y".repeat(99) + ".x");
        Checks.read(bench, 5, "\\xz" + "y".repeat(99) + ".x");
        CHECKS.due("99 is printed like 100", bench.print(4, 101) == bench.print(5, 101), true);
        CHECKS.due("99 is not 100", bench.same(4, 5), false);
        CHECKS.due("99 is 99", bench.same(4, 4), true);
    }

    /** 'IllegalArgumentException: no such slots.' */
    private static void sameWithoutSlots() {
        LambdaBench bench = Checks.with("a");
        for (int slot : NO_SLOTS) {
            CHECKS.throwing("same a " + slot, Checks.ARGUMENT, () -> bench.same(slot, 0));
            CHECKS.throwing("same b " + slot, Checks.ARGUMENT, () -> bench.same(0, slot));
            CHECKS.throwing("same of none " + slot, Checks.ARGUMENT, () -> bench.same(1, slot));
            CHECKS.throwing("same both " + slot, Checks.ARGUMENT, () -> bench.same(slot, slot));
        }
    }

    /** 'Whether a letter is in a slot's term' */
    private static void hasLetters97To122() {
        for (int letter = 97; letter <= 122; letter++) {
            LambdaBench bench = Checks.with("" + (char) letter);
            for (int other = 97; other <= 122; other++) {
                CHECKS.due((char) other + " in " + (char) letter, bench.has(0, other), other == letter);
            }
        }
        LambdaBench bench = Checks.with(Checks.sized(1998) + "z");
        CHECKS.due("the last of 2000", bench.has(0, 'z'), true);
        CHECKS.due("not in 2000", bench.has(0, 'b'), false);
    }

    /** 'false of none' */
    private static void hasInNone() {
        LambdaBench bench = Checks.with("a");
        CHECKS.due("in a term", bench.has(0, 'a'), true);
        CHECKS.due("in none", bench.has(1, 'a'), false);
        bench.copy(1, 0);
        CHECKS.due("in none now", bench.has(0, 'a'), false);
    }

    /** 'names of bound variables are not kept' */
    private static void hasNoNamesOfBoundVariables() {
        LambdaBench bench = Checks.with("\\x.x", "\\x.y", "(\\x.x)x", "#3", "\\a.b");
        CHECKS.due("a bound one", bench.has(0, 'x'), false);
        CHECKS.due("a name without a use", bench.has(1, 'x'), false);
        CHECKS.due("not bound", bench.has(1, 'y'), true);
        CHECKS.due("not bound there", bench.has(2, 'x'), true);
        for (int letter = 97; letter <= 122; letter++) {
            CHECKS.due("a numeral has no letter", bench.has(3, letter), false);
        }
        bench.bind(4, 'b');
        CHECKS.due("bound by bind", bench.has(4, 'b'), false);
        // Index 49 is printed as 97, which is a's own number.
        LambdaBench index = Checks.with("\\x" + "y".repeat(49) + ".x");
        CHECKS.due("index 49", index.print(0, 50), 97);
        CHECKS.due("index 49 is no a", index.has(0, 97), false);
    }

    /** 'IllegalArgumentException: no such slot or letter', be there a term or not. */
    private static void hasWithoutSlotOrLetter() {
        LambdaBench bench = Checks.with("S a");
        for (int slot : NO_SLOTS) {
            CHECKS.throwing("has in " + slot, Checks.ARGUMENT, () -> bench.has(slot, 'a'));
        }
        for (int letter : NO_LETTERS) {
            CHECKS.throwing("has " + letter, Checks.ARGUMENT, () -> bench.has(0, letter));
            CHECKS.throwing("has in none " + letter, Checks.ARGUMENT, () -> bench.has(1, letter));
        }
    }
}
