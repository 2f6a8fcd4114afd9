/** Promises 1 to 4: a new object, feed, read, place. */
public final class TextTest {
    private static final Checks CHECKS = new Checks();

    public static void main(String[] args) {
        newObject();
        feedCountsBytes();
        feedTakesTheLowestBytes();
        feedRefuses();
        rightTexts();
        wrongTexts();
        otherBytesAreWrong();
        parenthesesWithinOneAnother();
        greatTexts();
        readUsesTheTapeUp();
        readWithoutSlot();
        CHECKS.end();
    }

    private static void newObject() {
        LambdaBench bench = new LambdaBench();
        CHECKS.due("place of a new one", bench.place(), -1);
        CHECKS.due("how of a new one", bench.how(), 0);
        for (int slot = 0; slot < 12; slot++) {
            int here = slot;
            CHECKS.due("size of a new one", bench.size(slot), 0);
            CHECKS.due("has of a new one", bench.has(slot, 'a'), false);
            CHECKS.due("same of a new one", bench.same(slot, 0), true);
            CHECKS.throwing("print of a new one", Checks.BOUNDS, () -> bench.print(here, 0));
            CHECKS.throwing("redexes of a new one", Checks.STATE, () -> bench.redexes(here));
        }
        CHECKS.due("first feed", bench.feed('a', 1), 1);
    }

    private static void feedCountsBytes() {
        LambdaBench bench = new LambdaBench();
        int fed = 0;
        for (int n = 1; n <= 8; n++) {
            fed += n;
            CHECKS.due("feed of " + n, bench.feed(0x6162636465666768L, n), fed);
        }
        bench.read(0);
        CHECKS.due("letters of the feeds", Checks.row(bench, 0).substring(35),
            "hghfghefghdefghcdefghbcdefghabcdefgh");
        CHECKS.due("feed on a new tape", bench.feed('a', 1), 1);
    }

    private static void feedTakesTheLowestBytes() {
        LambdaBench bench = new LambdaBench();
        bench.feed(0xFFFFFFFFFFFF6162L, 2);
        CHECKS.due("the lowest two", bench.read(0), 3);
        CHECKS.due("the highest first", Checks.row(bench, 0), "@ab");
        bench.feed(0x61FF000000000000L, 8);
        CHECKS.throwing("byte 255", Checks.ARGUMENT, () -> bench.read(0));
        CHECKS.due("place of byte 255", bench.place(), 1);
        bench.feed(-1L, 8);
        CHECKS.throwing("bytes 255", Checks.ARGUMENT, () -> bench.read(0));
        CHECKS.due("place of bytes 255", bench.place(), 0);
    }

    private static void feedRefuses() {
        LambdaBench bench = new LambdaBench();
        for (int n : new int[] {0, -1, 9, 10, 256, Integer.MAX_VALUE, Integer.MIN_VALUE}) {
            CHECKS.throwing("feed of " + n, Checks.ARGUMENT, () -> bench.feed('a', n));
        }
        CHECKS.due("399 bytes", Checks.feed(bench, "a".repeat(399)), 399);
        CHECKS.throwing("401 bytes", Checks.STATE, () -> bench.feed(0x6161, 2));
        CHECKS.throwing("407 bytes", Checks.STATE, () -> bench.feed(0x6161, 8));
        CHECKS.throwing("n before the tape", Checks.ARGUMENT, () -> bench.feed(0x6161, 9));
        CHECKS.due("400 bytes", bench.feed('b', 1), 400);
        CHECKS.throwing("one more", Checks.STATE, () -> bench.feed('b', 1));
        CHECKS.throwing("n before the full tape", Checks.ARGUMENT, () -> bench.feed('b', 0));
        CHECKS.due("400 letters", bench.read(0), 799);
        CHECKS.due("the last letter", bench.print(0, 798), (int) 'b');
        CHECKS.due("the one before", bench.print(0, 797), (int) 'a');
    }

    private static void right(String text, String row) {
        LambdaBench bench = new LambdaBench();
        CHECKS.due("read of " + text, Checks.answerOf(() -> Checks.read(bench, 3, text)), row.length());
        CHECKS.due("row of " + text, Checks.row(bench, 3), row);
        CHECKS.due("place of " + text, bench.place(), -1);
    }

    private static void rightTexts() {
        right("a", "a");
        right("z", "z");
        right("S", "S");
        right("K", "K");
        right("I", "I");
        right("a b c", "@@abc");
        right("abc", "@@abc");
        right("a(b c)", "@a@bc");
        right("((a))(((b)))", "@ab");
        right("a(b c)(d e f)g", "@@@a@bc@@defg");
        right("\\x.x", "\\0");
        right("\\x.y", "\\y");
        right("\\x y.x y", "\\\\@10");
        right("\\xy.x\\z.y z x", "\\\\@1\\@@102");
        right("\\x x.x", "\\\\0");
        right("\\x.(\\x.x)x", "\\@\\00");
        right("(\\x.x)x", "@\\0x");
        right("(\\x.\\y.x y)y x", "@@\\\\@10yx");
        right("a\\x.x b", "@a\\@0b");
        right("a(\\x.x)b", "@@a\\0b");
        right("(\\x.(\\y.y)x y)", "\\@@\\00y");
        right("\\a b c.(\\d.(\\e.e d c b a)d)c", "\\\\\\@\\@\\@@@@0123400");
        right("#0", "\\\\0");
        right("#1", "\\\\@10");
        right("#2", "\\\\@1@10");
        right("#00", "\\\\0");
        right("#03", "\\\\@1@1@10");
        right("#12", "\\\\" + "@1".repeat(12) + "0");
        right("#99", "\\\\" + "@1".repeat(99) + "0");
        right("#1#0", "@\\\\@10\\\\0");
        right("#1a", "@\\\\@10a");
        right("\\f x.#1 f", "\\\\@\\\\@101");
        right("S#0K", "@@S\\\\0K");
        right("  a  b  ", "@ab");
        right(" ( \\ x  y . ( x ) y ) #1 ", "@\\\\@10\\\\@10");
        right("(a )b", "@ab");
        right("\\s.S s", "\\@S0");
    }

    private static void wrong(String text, int place) {
        LambdaBench bench = new LambdaBench();
        Checks.read(bench, 3, "k");
        CHECKS.throwing("read of " + text, Checks.ARGUMENT, () -> Checks.read(bench, 3, text));
        CHECKS.due("place of " + text, bench.place(), place);
        CHECKS.due("slot after " + text, Checks.row(bench, 3), "k");
        CHECKS.due("tape after " + text, bench.feed('a', 1), 1);
    }

    private static void wrongTexts() {
        wrong("", 0);
        wrong(" ", 1);
        wrong("   ", 3);
        wrong("(", 1);
        wrong("(a", 2);
        wrong("(a  ", 4);
        wrong("(a(b)", 5);
        wrong(")", 0);
        wrong("a)", 1);
        wrong("(a))(", 3);
        wrong("()", 1);
        wrong("a( )b", 3);
        wrong("\\", 1);
        wrong("\\ ", 2);
        wrong("\\.a", 1);
        wrong("\\x", 2);
        wrong("\\x y", 4);
        wrong("\\x.", 3);
        wrong("\\x. ", 4);
        wrong("\\x.)", 3);
        wrong("(\\x.)", 4);
        wrong("(\\x)", 3);
        wrong("\\x(", 2);
        wrong("\\x\\y.x", 2);
        wrong("\\x..x", 3);
        wrong("\\S.a", 1);
        wrong("\\xK.a", 2);
        wrong("\\x#1.a", 2);
        wrong("\\x1.a", 2);
        wrong(".", 0);
        wrong("a.b", 1);
        wrong("a .b", 2);
        wrong("#", 1);
        wrong("# 1", 1);
        wrong("#a", 1);
        wrong("##1", 1);
        wrong("#(1)", 1);
        wrong("#1 2", 3);
        wrong("#123", 3);
        wrong("#12 3", 4);
        wrong("1", 0);
        wrong("a1", 1);
        wrong("a A", 2);
        wrong("(#)", 2);
        wrong("\\x.x)", 4);
        wrong("(\\x.(\\y.y)x", 11);
        wrong("a)A", 1);
        wrong("(".repeat(20), 20);
        wrong("(".repeat(20) + "a" + ")".repeat(19) + " ", 41);
    }

    private static void otherBytesAreWrong() {
        String good = "abcdefghijklmnopqrstuvwxyzSKI ";
        for (int code = 0; code < 256; code++) {
            String text = "a" + (char) code;
            if (good.indexOf(code) >= 0) {
                CHECKS.due("byte " + code, Checks.row(Checks.with(text), 0),
                    code == ' ' ? "a" : "@a" + (char) code);
            } else if (code == '(' || code == '\\' || code == '#') {
                wrong(text, 2);
            } else {
                wrong(text, 1);
            }
        }
    }

    private static void parenthesesWithinOneAnother() {
        String open = "(".repeat(20);
        String close = ")".repeat(20);
        right(open + "a" + close, "a");
        right(open + "a" + close + open + "b" + close, "@ab");
        right(open + "\\x.x" + close, "\\0");
        right("(\\a.".repeat(20) + "a" + close, "\\".repeat(20) + "0");
        right("(\\a.".repeat(20) + "a" + ")a".repeat(20),
            "@" + "\\@".repeat(19) + "\\0" + "0".repeat(19) + "a");
        wrong("(" + open + "a" + close + ")", 20);
        wrong("(" + open, 20);
        wrong("a " + open + "a)a((a", 26);
        wrong("(\\x.".repeat(20) + "(", 80);
        right("\\x.".repeat(132) + "x", "\\".repeat(132) + "0");
        right("\\" + "x".repeat(397) + ".x", "\\".repeat(397) + "0");
    }

    private static void greatTexts() {
        LambdaBench bench = new LambdaBench();
        String most = "#99".repeat(9);
        CHECKS.due("size 2000", Checks.read(bench, 0, most + "(\\x.#89)"), 2000);
        CHECKS.due("place of 2000", bench.place(), -1);
        CHECKS.throwing("size 2001", Checks.ARGUMENT, () -> Checks.read(bench, 0, most + "#90"));
        CHECKS.due("place of 2001", bench.place(), -1);
        CHECKS.due("the slot stays", bench.size(0), 2000);
        CHECKS.due("the tape is used up", bench.feed('a', 1), 1);
        bench.read(1);
        CHECKS.throwing("wrong and great", Checks.ARGUMENT, () -> Checks.read(bench, 0, most + "#99)"));
        CHECKS.due("place of wrong and great", bench.place(), 30);
        CHECKS.throwing("greatest", Checks.ARGUMENT, () -> Checks.read(bench, 0, "#99".repeat(133)));
        CHECKS.due("place of the greatest", bench.place(), -1);
        CHECKS.throwing("great, missing", Checks.ARGUMENT,
            () -> Checks.read(bench, 0, "(" + "#99".repeat(132)));
        CHECKS.due("place of great, missing", bench.place(), 397);
        CHECKS.due("still there", bench.size(0), 2000);
    }

    private static void readUsesTheTapeUp() {
        LambdaBench bench = new LambdaBench();
        CHECKS.due("read", Checks.read(bench, 0, "a b"), 3);
        CHECKS.throwing("nothing is left", Checks.ARGUMENT, () -> bench.read(1));
        CHECKS.due("place of nothing", bench.place(), 0);
        CHECKS.due("slot 1 stays", bench.size(1), 0);
        CHECKS.due("read over a term", Checks.read(bench, 0, "c"), 1);
        CHECKS.due("the new one", Checks.row(bench, 0), "c");
        CHECKS.due("place after a right one", bench.place(), -1);
        CHECKS.due("last slot", Checks.read(bench, 11, "d"), 1);
        CHECKS.due("two digits", Checks.read(bench, 0, "#12"), 27);
        CHECKS.due("one digit, no digit of the text before", Checks.read(bench, 0, "#1"), 5);
    }

    private static void readWithoutSlot() {
        LambdaBench bench = new LambdaBench();
        CHECKS.throwing("wrong text", Checks.ARGUMENT, () -> Checks.read(bench, 0, "a)"));
        Checks.feed(bench, "a b");
        for (int slot : new int[] {-1, 12, Integer.MAX_VALUE, Integer.MIN_VALUE}) {
            CHECKS.throwing("slot " + slot, Checks.ARGUMENT, () -> bench.read(slot));
            CHECKS.due("place stays", bench.place(), 1);
        }
        CHECKS.due("the tape stays", bench.feed('c', 1), 4);
        CHECKS.due("read then", bench.read(0), 5);
        CHECKS.due("all of it", Checks.row(bench, 0), "@@abc");
    }
}
