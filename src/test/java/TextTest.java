/** Promises 1 to 4: a new object, feed, read, place. */
public final class TextTest {
    private static final Checks CHECKS = new Checks();

    public static void main(String[] args) {
        newObject();
        feedCountsBytes();
        feedTakesTheLowestBytes();
        feedRefuses();
        rightTexts();
        wrongTexts();
        otherBytesAreWrong();
        parenthesesWithinOneAnother();
        greatTexts();
        readUsesTheTapeUp();
        readWithoutSlot();
        CHECKS.end();
    }

    private static void newObject() {
        LambdaBench bench = new LambdaBench();
        CHECKS.due("place of a new one", bench.place(), -1);
        CHECKS.due("how of a new one", bench.how(), 0);
        for (int slot = 0; slot < 12; slot++) {
            int here = slot;
            CHECKS.due("size of a new one", bench.size(slot), 0);
            CHECKS.due("has of a new one", bench.has(slot, 'a'), false);
            CHECKS.due("same of a new one", bench.same(slot, 0), true);
            CHECKS.throwing("print of a new one", Checks.BOUNDS, () -> bench.print(here, 0));
            CHECKS.throwing("redexes of a new one", Checks.STATE, () -> bench.redexes(here));
        }
        CHECKS.due("first feed", bench.feed('a', 1), 1);
    }

    private static void feedCountsBytes() {
        LambdaBench bench = new LambdaBench();
        int fed = 0;
        for (int n = 1; n <= 8; n++) {
            fed += n;
            CHECKS.due("feed of " + n, bench.feed(0x6162636465666768L, n), fed);
        }
        bench.read(0);
        CHECKS.due("letters of the feeds", Checks.row(bench, 0).substring(35),
            "hghfghefghdefghcdefghbcdefghabcdefgh");
        CHECKS.due("feed on a new tape", bench.feed('a', 1), 1);
    }

    private static void feedTakesTheLowestBytes() {
        LambdaBench bench = new LambdaBench();
        bench.feed(0xFFFFFFFFFFFF6162L, 2);
        CHECKS.due("the lowest two", bench.read(0), 3);
        CHECKS.due("the highest first", Checks.row(bench, 0), "@ab");
        bench.feed(0x61FF000000000000L, 8);
        CHECKS.throwing("byte 255", Checks.ARGUMENT, () -> bench.read(0));
        CHECKS.due("place of byte 255", bench.place(), 1);
        bench.feed(-1L, 8);
        CHECKS.throwing("bytes 255", Checks.ARGUMENT, () -> bench.read(0));
        CHECKS.due("place of bytes 255", bench.place(), 0);
    }

    private static void feedRefuses() {
        LambdaBench bench = new LambdaBench();
        for (int n : new int[] {0, -1, 9, 10, 256, Integer.MAX_VALUE, Integer.MIN_VALUE}) {
            CHECKS.throwing("feed of " + n, Checks.ARGUMENT, () -> bench.feed('a', n));
        }
        CHECKS.due("399 bytes", Checks.feed(bench, "a".repeat(399)), 399);
        CHECKS.throwing("401 bytes", Checks.STATE, () -> bench.feed(0x6161, 2));
        CHECKS.throwing("407 bytes", Checks.STATE, () -> bench.feed(0x6161, 8));
        CHECKS.throwing("n before the tape", Checks.ARGUMENT, () -> bench.feed(0x6161, 9));
        CHECKS.due("400 bytes", bench.feed('b', 1), 400);
        CHECKS.throwing("one more", Checks.STATE, () -> bench.feed('b', 1));
        CHECKS.throwing("n before the full tape", Checks.ARGUMENT, () -> bench.feed('b', 0));
        CHECKS.due("400 letters", bench.read(0), 799);
        CHECKS.due("the last letter", bench.print(0, 798), (int) 'b');
        CHECKS.due("the one before", bench.print(0, 797), (int) 'a');
    }

    private static void rightTexts() {
        CHECKS.right("a", "a");
        CHECKS.right("z", "z");
        CHECKS.right("S", "S");
        CHECKS.right("K", "K");
        CHECKS.right("I", "I");
        CHECKS.right("a b c", "@@abc");
        CHECKS.right("abc", "@@abc");
        CHECKS.right("a(b c)", "@a@bc");
        CHECKS.right("((a))(((b)))", "@ab");
        CHECKS.right("a(b c)(d e f)g", "@@@a@bc@@defg");
        CHECKS.right("\\x.x", "\\0");
        CHECKS.right("\\x.y", "\\y");
        CHECKS.right("\\x y.x y", "\\\\@10");
        CHECKS.right("\\xy.x\\z.y z x", "\\\\@1\\@@102");
        CHECKS.right("\\x x.x", "\\\\0");
        CHECKS.right("\\x.(\\x.x)x", "\\@\\00");
        CHECKS.right("(\\x.x)x", "@\\0x");
        CHECKS.right("(\\x.\\y.x y)y x", "@@\\\\@10yx");
        CHECKS.right("a\\x.x b", "@a\\@0b");
        CHECKS.right("a(\\x.x)b", "@@a\\0b");
        CHECKS.right("(\\x.(\\y.y)x y)", "\\@@\\00y");
        CHECKS.right("\\a b c.(\\d.(\\e.e d c b a)d)c", "\\\\\\@\\@\\@@@@0123400");
        CHECKS.right("#0", "\\\\0");
        CHECKS.right("#1", "\\\\@10");
        CHECKS.right("#2", "\\\\@1@10");
        CHECKS.right("#00", "\\\\0");
        CHECKS.right("#03", "\\\\@1@1@10");
        CHECKS.right("#12", "\\\\" + "@1".repeat(12) + "0");
        CHECKS.right("#99", "\\\\" + "@1".repeat(99) + "0");
        CHECKS.right("#1#0", "@\\\\@10\\\\0");
        CHECKS.right("#1a", "@\\\\@10a");
        CHECKS.right("\\f x.#1 f", "\\\\@\\\\@101");
        CHECKS.right("S#0K", "@@S\\\\0K");
        CHECKS.right("  a  b  ", "@ab");
        CHECKS.right(" ( \\ x  y . ( x ) y ) #1 ", "@\\\\@10\\\\@10");
        CHECKS.right("(a )b", "@ab");
        CHECKS.right("\\s.S s", "\\@S0");
    }

    private static void wrongTexts() {
        CHECKS.wrong("", 0);
        CHECKS.wrong(" ", 1);
        CHECKS.wrong("   ", 3);
        CHECKS.wrong("(", 1);
        CHECKS.wrong("(a", 2);
        CHECKS.wrong("(a  ", 4);
        CHECKS.wrong("(a(b)", 5);
        CHECKS.wrong(")", 0);
        CHECKS.wrong("a)", 1);
        CHECKS.wrong("(a))(", 3);
        CHECKS.wrong("()", 1);
        CHECKS.wrong("a( )b", 3);
        CHECKS.wrong("\\", 1);
        CHECKS.wrong("\\ ", 2);
        CHECKS.wrong("\\.a", 1);
        CHECKS.wrong("\\x", 2);
        CHECKS.wrong("\\x y", 4);
        CHECKS.wrong("\\x.", 3);
        CHECKS.wrong("\\x. ", 4);
        CHECKS.wrong("\\x.)", 3);
        CHECKS.wrong("(\\x.)", 4);
        CHECKS.wrong("(\\x)", 3);
        CHECKS.wrong("\\x(", 2);
        CHECKS.wrong("\\x\\y.x", 2);
        CHECKS.wrong("\\x..x", 3);
        CHECKS.wrong("\\S.a", 1);
        CHECKS.wrong("\\xK.a", 2);
        CHECKS.wrong("\\x#1.a", 2);
        CHECKS.wrong("\\x1.a", 2);
        CHECKS.wrong(".", 0);
        CHECKS.wrong("a.b", 1);
        CHECKS.wrong("a .b", 2);
        CHECKS.wrong("#", 1);
        CHECKS.wrong("# 1", 1);
        CHECKS.wrong("#a", 1);
        CHECKS.wrong("##1", 1);
        CHECKS.wrong("#(1)", 1);
        CHECKS.wrong("#1 2", 3);
        CHECKS.wrong("#123", 3);
        CHECKS.wrong("#12 3", 4);
        CHECKS.wrong("1", 0);
        CHECKS.wrong("a1", 1);
        CHECKS.wrong("a A", 2);
        CHECKS.wrong("(#)", 2);
        CHECKS.wrong("\\x.x)", 4);
        CHECKS.wrong("(\\x.(\\y.y)x", 11);
        CHECKS.wrong("a)A", 1);
        CHECKS.wrong("(".repeat(20), 20);
        CHECKS.wrong("(".repeat(20) + "a" + ")".repeat(19) + " ", 41);
    }

    private static void otherBytesAreWrong() {
        String good = "abcdefghijklmnopqrstuvwxyzSKI ";
        for (int code = 0; code < 256; code++) {
            String text = "a" + (char) code;
            if (good.indexOf(code) >= 0) {
                CHECKS.due("byte " + code, Checks.row(Checks.with(text), 0),
                    code == ' ' ? "a" : "@a" + (char) code);
            } else if (code == '(' || code == '\\' || code == '#') {
                CHECKS.wrong(text, 2);
            } else {
                CHECKS.wrong(text, 1);
            }
        }
    }

    private static void parenthesesWithinOneAnother() {
        String open = "(".repeat(20);
        String close = ")".repeat(20);
        CHECKS.right(open + "a" + close, "a");
        CHECKS.right(open + "a" + close + open + "b" + close, "@ab");
        CHECKS.right(open + "\\x.x" + close, "\\0");
        CHECKS.right("(\\a.".repeat(20) + "a" + close, "\\".repeat(20) + "0");
        CHECKS.right("(\\a.".repeat(20) + "a" + ")a".repeat(20),
            "@" + "\\@".repeat(19) + "\\0" + "0".repeat(19) + "a");
        CHECKS.wrong("(" + open + "a" + close + ")", 20);
        CHECKS.wrong("(" + open, 20);
        CHECKS.wrong("a " + open + "a)a((a", 26);
        CHECKS.wrong("(\\x.".repeat(20) + "(", 80);
        CHECKS.right("\\x.".repeat(132) + "x", "\\".repeat(132) + "0");
        CHECKS.right("\\" + "x".repeat(397) + ".x", "\\".repeat(397) + "0");
    }

    private static void greatTexts() {
        LambdaBench bench = new LambdaBench();
        String most = "#99".repeat(9);
        CHECKS.due("size 2000", Checks.read(bench, 0, most + "(\\x.#89)"), 2000);
        CHECKS.due("place of 2000", bench.place(), -1);
        CHECKS.throwing("size 2001", Checks.ARGUMENT, () -> Checks.read(bench, 0, most + "#90"));
        CHECKS.due("place of 2001", bench.place(), -1);
        CHECKS.due("the slot stays", bench.size(0), 2000);
        CHECKS.due("the tape is used up", bench.feed('a', 1), 1);
        bench.read(1);
        CHECKS.throwing("wrong and great", Checks.ARGUMENT, () -> Checks.read(bench, 0, most + "#99)"));
        CHECKS.due("place of wrong and great", bench.place(), 30);
        CHECKS.throwing("greatest", Checks.ARGUMENT, () -> Checks.read(bench, 0, "#99".repeat(133)));
        CHECKS.due("place of the greatest", bench.place(), -1);
        CHECKS.throwing("great, missing", Checks.ARGUMENT,
            () -> Checks.read(bench, 0, "(" + "#99".repeat(132)));
        CHECKS.due("place of great, missing", bench.place(), 397);
        CHECKS.due("still there", bench.size(0), 2000);
    }

    private static void readUsesTheTapeUp() {
        LambdaBench bench = new LambdaBench();
        CHECKS.due("read", Checks.read(bench, 0, "a b"), 3);
        CHECKS.throwing("nothing is left", Checks.ARGUMENT, () -> bench.read(1));
        CHECKS.due("place of nothing", bench.place(), 0);
        CHECKS.due("slot 1 stays", bench.size(1), 0);
        CHECKS.due("read over a term", Checks.read(bench, 0, "c"), 1);
        CHECKS.due("the new one", Checks.row(bench, 0), "c");
        CHECKS.due("place after a right one", bench.place(), -1);
        CHECKS.due("last slot", Checks.read(bench, 11, "d"), 1);
        CHECKS.due("two digits", Checks.read(bench, 0, "#12"), 27);
        CHECKS.due("one digit, no digit of the text before", Checks.read(bench, 0, "#1"), 5);
    }

    private static void readWithoutSlot() {
        LambdaBench bench = new LambdaBench();
        CHECKS.throwing("wrong text", Checks.ARGUMENT, () -> Checks.read(bench, 0, "a)"));
        Checks.feed(bench, "a b");
        for (int slot : new int[] {-1, 12, Integer.MAX_VALUE, Integer.MIN_VALUE}) {
            CHECKS.throwing("slot " + slot, Checks.ARGUMENT, () -> bench.read(slot));
            CHECKS.due("place stays", bench.place(), 1);
        }
        CHECKS.due("the tape stays", bench.feed('c', 1), 4);
        CHECKS.due("read then", bench.read(0), 5);
        CHECKS.due("all of it", Checks.row(bench, 0), "@@abc");
    }
}
