/**
 * Every sentence on texts that names a bound or a refused call, on both sides of the bound: those
 * of 'Terms', and promises 1 to 4. Above each test stands the sentence that it holds to.
 */
public final class TextEdgesTest {
    private static final int[] NO_SLOTS = {-1, 12, 13, 256, Integer.MAX_VALUE, Integer.MIN_VALUE};
    private static final String OPEN = "(".repeat(20);
    private static final String CLOSE = ")".repeat(20);
    private static final Checks CHECKS = new Checks();

    public static void main(String[] args) {
        newObjectsHaveNoTerms();
        feedTakesOneToEightBytes();
        feedTakesTheLowestBytesTheHighestFirst();
        feedStopsAt400Bytes();
        feedThatIsRefusedLeavesTheTape();
        readTakesSlots0To11();
        readWithoutSlotLeavesTheTape();
        readUsesTheTapeUp();
        readThatIsRefusedLeavesTheSlot();
        textsUpTo400Bytes();
        termsUpTo2000();
        placeOfNoText();
        placeIsOfTheLatestText();
        placeStaysInOtherCalls();
        numeralsHaveOneOrTwoDigits();
        blanksAreNotWithinANumeral();
        parenthesesAreAtMost20WithinOneAnother();
        somethingIsMissing();
        wrongWhateverFollows();
        letters();
        names();
        atoms();
        abstractionsTakeAllThatFollows();
        innermostAbstraction();
        CHECKS.end();
    }

    /** 'No terms.' */
    private static void newObjectsHaveNoTerms() {
        LambdaBench used = new LambdaBench();
        for (int slot = 0; slot < 12; slot++) {
            Checks.read(used, slot, "I a");
        }
        used.reduce(0, 1);
        Checks.feed(used, "a");
        LambdaBench bench = new LambdaBench();
        for (int slot = 0; slot < 12; slot++) {
            int here = slot;
            CHECKS.due("no term, size", bench.size(slot), 0);
            CHECKS.throwing("no term, print", Checks.BOUNDS, () -> bench.print(here, 0));
            CHECKS.throwing("no term, apply f", Checks.STATE, () -> bench.apply(here, 0, 0));
            CHECKS.throwing("no term, apply a", Checks.STATE, () -> bench.apply(0, here, 0));
            CHECKS.throwing("no term, bind", Checks.STATE, () -> bench.bind(here, 'a'));
            CHECKS.throwing("no term, redexes", Checks.STATE, () -> bench.redexes(here));
            CHECKS.throwing("no term, reduce", Checks.STATE, () -> bench.reduce(here, 1));
            CHECKS.throwing("no term, abstracted", Checks.STATE, () -> bench.abstracted(here));
            CHECKS.throwing("no term, numeral", Checks.STATE, () -> bench.numeral(here, 1));
            CHECKS.due("no term, has", bench.has(slot, 'a'), false);
            CHECKS.due("no term, size at the end", bench.size(slot), 0);
        }
        CHECKS.due("nothing on the tape", bench.feed('a', 1), 1);
        CHECKS.due("no reduce", bench.how(), 0);
        CHECKS.due("no text", bench.place(), -1);
    }

    /** 'n bytes (1 .. 8 ...) more on the tape: how many. IllegalArgumentException: n is not so' */
    private static void feedTakesOneToEightBytes() {
        for (int n : new int[] {0, 9, -1, -8, 16, 64, 257, Integer.MAX_VALUE, Integer.MIN_VALUE}) {
            LambdaBench bench = new LambdaBench();
            CHECKS.throwing("feed of " + n, Checks.ARGUMENT, () -> bench.feed(0x61L, n));
            CHECKS.due("nothing fed", bench.feed('a', 1), 1);
        }
        for (int n = 1; n <= 8; n++) {
            LambdaBench bench = new LambdaBench();
            CHECKS.due("feed of " + n, bench.feed(0x6161616161616161L, n), n);
            CHECKS.due("feed of " + n + " more", bench.feed(0x6161616161616161L, n), 2 * n);
            CHECKS.due("size of them", bench.read(0), 4 * n - 1);
        }
    }

    /** 'the lowest n of bytes, the highest of these first' */
    private static void feedTakesTheLowestBytesTheHighestFirst() {
        for (int n = 1; n <= 8; n++) {
            LambdaBench bench = new LambdaBench();
            bench.feed(0x6162636465666768L, n);
            bench.read(0);
            CHECKS.due("the lowest " + n, Checks.row(bench, 0),
                "@".repeat(n - 1) + "abcdefgh".substring(8 - n));
        }
        LambdaBench bench = new LambdaBench();
        bench.feed(0xFFFFFFFFFFFFFF61L, 1);
        CHECKS.due("what stands above is not fed", bench.read(0), 1);
        bench.feed(0xE161616161616161L, 8);
        CHECKS.throwing("a byte above 127", Checks.ARGUMENT, () -> bench.read(0));
        CHECKS.due("it is the first one", bench.place(), 0);
        bench.feed(0x61616161E1616161L, 8);
        CHECKS.throwing("a byte above 127", Checks.ARGUMENT, () -> bench.read(0));
        CHECKS.due("it is the fifth one", bench.place(), 4);
    }

    /** 'IllegalStateException: there would be more than 400.' */
    private static void feedStopsAt400Bytes() {
        for (int n = 1; n <= 8; n++) {
            int bytes = n;
            LambdaBench full = new LambdaBench();
            Checks.feed(full, "a".repeat(400 - n));
            CHECKS.due(n + " to 400", full.feed(0x6262626262626262L, n), 400);
            CHECKS.throwing("1 to 401", Checks.STATE, () -> full.feed(0x63, 1));
            CHECKS.throwing("8 to 408", Checks.STATE, () -> full.feed(0x63, 8));
            CHECKS.due("400 are read", full.read(0), 799);
            CHECKS.due("the first of the last ones", full.print(0, 799 - n), (int) 'b');
            CHECKS.due("the one before", full.print(0, 798 - n), (int) 'a');
            CHECKS.due("the last one", full.print(0, 798), (int) 'b');

            LambdaBench over = new LambdaBench();
            Checks.feed(over, "a".repeat(401 - n));
            CHECKS.throwing(n + " to 401", Checks.STATE, () -> over.feed(0x62, bytes));
            CHECKS.due("none of them is on the tape", over.read(0), 2 * (401 - n) - 1);
            CHECKS.due("nor is the last one", over.has(0, 'b'), false);
        }
    }

    /** A call that throws does nothing: the bytes before it and behind it stand together. */
    private static void feedThatIsRefusedLeavesTheTape() {
        LambdaBench bench = new LambdaBench();
        Checks.feed(bench, "ab");
        CHECKS.throwing("no bytes", Checks.ARGUMENT, () -> bench.feed('x', 0));
        CHECKS.throwing("nine bytes", Checks.ARGUMENT, () -> bench.feed('x', 9));
        CHECKS.due("the third byte", bench.feed('c', 1), 3);
        CHECKS.due("three letters", bench.read(0), 5);
        CHECKS.due("their row", Checks.row(bench, 0), "@@abc");
        Checks.feed(bench, "a".repeat(400));
        CHECKS.throwing("no bytes on a full tape", Checks.ARGUMENT, () -> bench.feed('x', 0));
        CHECKS.throwing("nine bytes on a full tape", Checks.ARGUMENT, () -> bench.feed('x', 9));
        CHECKS.throwing("one byte on a full tape", Checks.STATE, () -> bench.feed('x', 1));
        CHECKS.due("400 letters", bench.read(0), 799);
        CHECKS.due("a new tape", bench.feed('x', 1), 1);
    }

    /** 'SLOTS 0 .. 11 have a term or none.' */
    private static void readTakesSlots0To11() {
        LambdaBench bench = new LambdaBench();
        for (int slot = 0; slot < 12; slot++) {
            CHECKS.due("read into " + slot, Checks.read(bench, slot, "" + (char) ('a' + slot)), 1);
        }
        for (int slot = 0; slot < 12; slot++) {
            CHECKS.due("slot " + slot, bench.print(slot, 0), 'a' + slot);
        }
    }

    /** 'IllegalArgumentException: no such slot (the tape stays then)' */
    private static void readWithoutSlotLeavesTheTape() {
        for (int slot : NO_SLOTS) {
            LambdaBench bench = Checks.with("k");
            Checks.feed(bench, "a b");
            CHECKS.throwing("slot " + slot, Checks.ARGUMENT, () -> bench.read(slot));
            CHECKS.due("the tape stays", bench.feed('c', 1), 4);
            CHECKS.due("slot 0 stays", Checks.row(bench, 0), "k");
            CHECKS.due("slot 11 stays", bench.size(11), 0);
            CHECKS.due("all is read", bench.read(0), 5);
            CHECKS.due("its row", Checks.row(bench, 0), "@@abc");
        }
    }

    /** 'The tape (used up, also when this throws) is read into a slot: the term's size.' */
    private static void readUsesTheTapeUp() {
        String[] texts = {"a b", "a b)", "", "(", "#99".repeat(20)};
        String[] answers = {"3", Checks.ARGUMENT, Checks.ARGUMENT, Checks.ARGUMENT, Checks.ARGUMENT};
        for (int i = 0; i < texts.length; i++) {
            LambdaBench bench = new LambdaBench();
            Checks.feed(bench, texts[i]);
            CHECKS.due("read of " + texts[i], "" + Checks.answerOf(() -> bench.read(0)), answers[i]);
            CHECKS.due("a new tape after " + texts[i], bench.feed('c', 1), 1);
            CHECKS.due("read again", bench.read(1), 1);
            CHECKS.due("its row", Checks.row(bench, 1), "c");
            CHECKS.throwing("nothing is left", Checks.ARGUMENT, () -> bench.read(1));
        }
    }

    /** 'IllegalArgumentException: ... wrong, or too great (the slot stays).' */
    private static void readThatIsRefusedLeavesTheSlot() {
        String[] texts = {"", "a)", "(a", "a A", "#", "#99".repeat(10), "#99".repeat(133)};
        for (String text : texts) {
            LambdaBench bench = Checks.with("k l");
            Checks.read(bench, 11, Checks.sized(2000));
            bench.copy(11, 10);
            CHECKS.throwing(text + " over a term", Checks.ARGUMENT, () -> Checks.read(bench, 0, text));
            CHECKS.due("the term stays", Checks.row(bench, 0), "@kl");
            CHECKS.throwing(text + " over 2000", Checks.ARGUMENT, () -> Checks.read(bench, 11, text));
            CHECKS.due("the great term stays", bench.same(11, 10), true);
            CHECKS.throwing(text + " into none", Checks.ARGUMENT, () -> Checks.read(bench, 1, text));
            CHECKS.due("still none", bench.size(1), 0);
        }
    }

    /** 'TEXTS (at most 400 bytes)' */
    private static void textsUpTo400Bytes() {
        CHECKS.right("a".repeat(11) + " ".repeat(388) + "b", "@".repeat(11) + "a".repeat(11) + "b");
        CHECKS.right(" ".repeat(399) + "a", "a");
        CHECKS.right("a" + " ".repeat(399), "a");
        CHECKS.right(" ".repeat(398) + "#7", "\\\\" + "@1".repeat(7) + "0");
        CHECKS.right(" ".repeat(397) + "#42", "\\\\" + "@1".repeat(42) + "0");
        CHECKS.right("\\" + "x".repeat(397) + ".x", "\\".repeat(397) + "0");
        CHECKS.right("\\x.".repeat(133) + "x", "\\".repeat(133) + "0");
        CHECKS.wrong("a".repeat(399) + ")", 399);
        CHECKS.wrong("a".repeat(399) + "(", 400);
        CHECKS.wrong("a".repeat(399) + "#", 400);
        CHECKS.wrong("a".repeat(399) + "\\", 400);
        CHECKS.wrong("\\" + "x".repeat(399), 400);
        CHECKS.wrong("\\" + "x".repeat(398) + ".", 400);
        CHECKS.wrong("(" + "a".repeat(399), 400);
        CHECKS.wrong(" ".repeat(400), 400);
        CHECKS.wrong("(" + "a".repeat(398), 399);
    }

    private static void readsSize(String text, int size) {
        LambdaBench bench = Checks.with("k");
        CHECKS.throwing("a wrong one", Checks.ARGUMENT, () -> Checks.read(bench, 1, "a)"));
        Object answer = Checks.answerOf(() -> Checks.read(bench, 0, text));
        CHECKS.due("size " + size, answer, size <= 2000 ? (Object) size : Checks.ARGUMENT);
        CHECKS.due("place of size " + size, bench.place(), -1);
        CHECKS.due("slot after size " + size, bench.size(0), size <= 2000 ? size : 1);
    }

    /** 'No term is greater than 2,000.' 'One whose term is greater than 2,000 is no term either.' */
    private static void termsUpTo2000() {
        for (int size = 1996; size <= 2004; size++) {
            readsSize(Checks.sized(size), size);
            readsSize("\\x." + Checks.sized(size - 1), size);
            readsSize("(" + Checks.sized(size - 2) + ")b", size);
            readsSize("b(" + Checks.sized(size - 2) + ")", size);
            readsSize("\\x." + Checks.sized(size - 6) + "\\y.y x", size);
            readsSize("I(\\xyz." + Checks.sized(size - 5) + ")", size);
        }
        // The last piece alone goes over the bound: a letter, a combinator, a name, a numeral.
        String most = Checks.sized(1998);
        readsSize("\\x." + most, 1999);
        readsSize(most + "b", 2000);
        readsSize(most + "S", 2000);
        readsSize("\\xy." + most, 2000);
        readsSize("\\xyz." + most, 2001);
        readsSize("\\x." + most + "b", 2001);
        readsSize("\\x." + most + "x", 2001);
        readsSize("\\x." + most + "K", 2001);
        readsSize(Checks.sized(1990) + "#2", 1998);
        readsSize(Checks.sized(1990) + "#3", 2000);
        readsSize(Checks.sized(1991) + "#3", 2001);
        readsSize(Checks.sized(1990) + "#4", 2002);
        readsSize("#99".repeat(133), 133 * 201 + 132);
    }

    /** '-1 when ... there was none.' */
    private static void placeOfNoText() {
        LambdaBench bench = new LambdaBench();
        CHECKS.due("of a new object", bench.place(), -1);
        Checks.feed(bench, "a)");
        CHECKS.due("fed, but not taken", bench.place(), -1);
        for (int slot : NO_SLOTS) {
            CHECKS.throwing("no such slot", Checks.ARGUMENT, () -> bench.read(slot));
            CHECKS.due("still not taken", bench.place(), -1);
        }
        CHECKS.throwing("taken", Checks.ARGUMENT, () -> bench.read(0));
        CHECKS.due("of the wrong one", bench.place(), 1);
    }

    /** 'Where the latest text that was taken from the tape was wrong, -1 when it was right or too great' */
    private static void placeIsOfTheLatestText() {
        String great = "#99".repeat(10);
        String[] texts = {"a", "ab)", "a", "abc)", "a)", great, "a)", "", "  (", great, "\\", "a"};
        int[] places = {-1, 2, -1, 3, 1, -1, 1, 0, 3, -1, 1, -1};
        LambdaBench bench = new LambdaBench();
        for (int i = 0; i < texts.length; i++) {
            int slot = i;
            Checks.feed(bench, texts[i]);
            CHECKS.due("place before text " + i, bench.place(), i == 0 ? -1 : places[i - 1]);
            Checks.answerOf(() -> bench.read(slot));
            CHECKS.due("place of text " + i, bench.place(), places[i]);
            CHECKS.due("asked again", bench.place(), places[i]);
        }
    }

    /** No call but read takes a text from the tape. */
    private static void placeStaysInOtherCalls() {
        LambdaBench bench = Checks.with("I a", "#1", Checks.sized(2000));
        CHECKS.throwing("a wrong one", Checks.ARGUMENT, () -> Checks.read(bench, 0, "abc)"));
        Checks.feed(bench, "a");
        bench.size(0);
        bench.print(0, 0);
        bench.copy(0, 4);
        bench.apply(0, 1, 5);
        bench.bind(0, 'a');
        bench.redexes(0);
        bench.reduce(0, 1);
        bench.how();
        bench.abstracted(0);
        bench.numeral(1, 1);
        bench.same(0, 1);
        bench.has(0, 'a');
        CHECKS.due("place", bench.place(), 3);
        CHECKS.throwing("no slot", Checks.ARGUMENT, () -> bench.read(12));
        CHECKS.throwing("no bytes", Checks.ARGUMENT, () -> bench.feed(0, 0));
        CHECKS.throwing("too great", Checks.STATE, () -> bench.bind(2, 'a'));
        CHECKS.due("place after refused calls", bench.place(), 3);
    }

    /** 'a NUMERAL # with one or two digits' */
    private static void numeralsHaveOneOrTwoDigits() {
        CHECKS.wrong("#", 1);
        CHECKS.wrong("a#", 2);
        CHECKS.wrong("(#)", 2);
        for (int n = 0; n <= 99; n++) {
            String row = "\\\\" + "@1".repeat(n) + "0";
            CHECKS.right("#" + n, row);
            CHECKS.right((n < 10 ? "#0" : "#") + n, row);
        }
        CHECKS.wrong("#100", 3);
        CHECKS.wrong("#000", 3);
        CHECKS.wrong("#1234", 3);
        CHECKS.wrong("#990", 3);
        CHECKS.right("#9#9", "@\\\\" + "@1".repeat(9) + "0\\\\" + "@1".repeat(9) + "0");
        CHECKS.right("#10a", "@\\\\" + "@1".repeat(10) + "0a");
        CHECKS.right("#1a", "@\\\\@10a");
        CHECKS.right("(#1)a", "@\\\\@10a");
        CHECKS.wrong("#1a0", 3);
        // The neighbours of the digits 0 and 9.
        CHECKS.wrong("#/", 1);
        CHECKS.wrong("#:", 1);
        CHECKS.wrong("#0/", 2);
        CHECKS.wrong("#9:", 2);
        CHECKS.wrong("#-1", 1);
        CHECKS.wrong("#a", 1);
        CHECKS.wrong("#S", 1);
        CHECKS.wrong("#(1)", 1);
        CHECKS.wrong("##", 1);
        CHECKS.wrong("#\\x.x", 1);
    }

    /** 'Blanks may stand between anything (not within a numeral).' */
    private static void blanksAreNotWithinANumeral() {
        CHECKS.wrong("# 1", 1);
        CHECKS.wrong("#1 1", 3);
        CHECKS.wrong("# ", 1);
        CHECKS.right(" #1 ", "\\\\@10");
        CHECKS.right("#1 #1", "@\\\\@10\\\\@10");
        CHECKS.right(" ( a ) ( b ) ", "@ab");
        CHECKS.right("  \\  x  y  .  x  y  ", "\\\\@10");
        CHECKS.right(" S  K  I ", "@@SKI");
        CHECKS.right("(  (  a)  )", "a");
        CHECKS.wrong("a\tb", 1);
        CHECKS.wrong("a\nb", 1);
        CHECKS.wrong("a\u0000", 1);
        CHECKS.wrong("a\u00a0b", 1);
        CHECKS.wrong("\\\tx.x", 1);
        CHECKS.wrong("\\x\t.x", 2);
    }

    /** 'parentheses are at most 20 within one another (wrong at the bracket)' */
    private static void parenthesesAreAtMost20WithinOneAnother() {
        for (int deep = 1; deep <= 20; deep++) {
            CHECKS.right("(".repeat(deep) + "a" + ")".repeat(deep), "a");
        }
        for (int deep = 21; deep <= 190; deep++) {
            CHECKS.wrong("(".repeat(deep) + "a" + ")".repeat(deep), 20);
        }
        CHECKS.wrong(OPEN + "(", 20);
        CHECKS.wrong(OPEN, 20);
        CHECKS.wrong(OPEN + ")", 20);
        CHECKS.right("( ".repeat(20) + "a" + CLOSE, "a");
        CHECKS.wrong("( ".repeat(21) + "a" + CLOSE + ")", 40);
        CHECKS.right("a(".repeat(20) + "a" + CLOSE, "@a".repeat(20) + "a");
        CHECKS.wrong("a(".repeat(21) + "a" + CLOSE + ")", 41);
        CHECKS.right("(\\x.".repeat(20) + "x" + CLOSE, "\\".repeat(20) + "0");
        CHECKS.wrong("(\\x.".repeat(21) + "x" + CLOSE + ")", 80);
        CHECKS.right("\\x.".repeat(21) + OPEN + "x" + CLOSE, "\\".repeat(21) + "0");
        CHECKS.wrong("\\x.".repeat(21) + OPEN + "(x" + CLOSE + ")", 83);
        // Beside one another they may be more.
        CHECKS.right((OPEN + "a" + CLOSE).repeat(9), "@".repeat(8) + "a".repeat(9));
        CHECKS.right("(a)".repeat(133), "@".repeat(132) + "a".repeat(133));
        CHECKS.right(OPEN + "a)(b" + CLOSE, "@ab");
        CHECKS.wrong(OPEN + "a)((b" + CLOSE + ")", 23);
        CHECKS.wrong(OPEN + "a(b)" + CLOSE, 21);
        CHECKS.wrong(OPEN + "a" + CLOSE + ")", 41);
    }

    /** '(its length when something is missing)' */
    private static void somethingIsMissing() {
        String[] texts = {
            "", "(", "((", "\\", "\\x", "\\xy", "\\x.", "\\x.\\y.", "#", "(a", "(a(b)", "((a)", "a(",
            "a \\", "a\\x", "a\\x.", "a#", "(\\x.x", "(\\x.(\\y.y)x", "(#1", "(#12", "(S", "a(b(c)d",
        };
        for (String text : texts) {
            CHECKS.wrong(text, text.length());
            if (!text.endsWith("#")) {
                CHECKS.wrong(text + " ", text.length() + 1);
                CHECKS.wrong(text + "   ", text.length() + 3);
            }
        }
    }

    /** 'A text is WRONG at the first byte with which it can't be right, whatever follows' */
    private static void wrongWhateverFollows() {
        String[] wrong = {
            ")", "a)", "()", "(a))", "( )", "\\.", "\\x)", "\\x(", "\\x\\", "\\x.)", "\\x#", "\\xS",
            "\\x1", "\\x..", ".", "a.", "1", "a1", "#a", "#123", "#1 2", "A", "a,", "(a)\t", "@",
            "\\(", "\\\\", "\\#", "\\I", "(\\x.)", "(\\x)", "[", "{", "\u00e4", "a[", "\u00ff",
        };
        String[] following = {"", " ", "a", ")", "(", "a)", "#", "\\x.x", "(a)(b)", "A", "))", ".a"};
        for (String text : wrong) {
            for (String more : following) {
                CHECKS.wrong(text + more, text.length() - 1);
            }
        }
    }

    /** 'a letter a .. z, S, K, I' */
    private static void letters() {
        for (char letter = 'a'; letter <= 'z'; letter++) {
            CHECKS.right("" + letter, "" + letter);
        }
        CHECKS.wrong("`", 0);
        CHECKS.wrong("{", 0);
        for (char capital = 'A'; capital <= 'Z'; capital++) {
            if (capital == 'S' || capital == 'K' || capital == 'I') {
                CHECKS.right("" + capital, "" + capital);
            } else {
                CHECKS.wrong("" + capital, 0);
            }
        }
    }

    /** 'a backslash, one or more letters, a point, a TERM' */
    private static void names() {
        for (int code = 0; code < 256; code++) {
            if (code >= 'a' && code <= 'z') {
                CHECKS.right("\\" + (char) code + "." + (char) code, "\\0");
            } else if (code == ' ') {
                CHECKS.wrong("\\ ", 2);
            } else {
                CHECKS.wrong("\\" + (char) code + ".a", 1);
            }
            if ((code < 'a' || code > 'z') && code != ' ' && code != '.') {
                CHECKS.wrong("\\x" + (char) code + ".a", 2);
            }
        }
        CHECKS.wrong("\\.x", 1);
        CHECKS.wrong("\\ .x", 2);
        CHECKS.right("\\x.x", "\\0");
        CHECKS.right("\\xy.x", "\\\\1");
        CHECKS.right("\\xyz.x", "\\\\\\2");
        CHECKS.right("\\abcdefghijklmnopqrstuvwxyz.a", "\\".repeat(26) + (char) (48 + 25));
    }

    /** 'a TERM is one or more ATOMS' */
    private static void atoms() {
        CHECKS.wrong("", 0);
        CHECKS.right("a", "a");
        CHECKS.right("ab", "@ab");
        CHECKS.right("a".repeat(200), "@".repeat(199) + "a".repeat(200));
        CHECKS.wrong("()", 1);
        CHECKS.wrong("a()", 2);
        CHECKS.right("(a)", "a");
        CHECKS.wrong("\\x.", 3);
        CHECKS.wrong("(\\x.)", 4);
        CHECKS.right("(\\x.a)", "\\a");
    }

    /** 'an ABSTRACTION, which takes all that follows up to the ) or the end' */
    private static void abstractionsTakeAllThatFollows() {
        CHECKS.right("\\x.x a b", "\\@@0ab");
        CHECKS.right("(\\x.x a)b", "@\\@0ab");
        CHECKS.right("a\\x.x b\\y.y x", "@a\\@@0b\\@01");
        CHECKS.right("a(\\x.x b\\y.y x)x", "@@a\\@@0b\\@01x");
        CHECKS.right("(a\\x.\\y.x y)y", "@@a\\\\@10y");
        CHECKS.right("\\x.(x)x", "\\@00");
        CHECKS.right("\\x.((x)x)x", "\\@@000");
    }

    /** 'A letter is bound by the innermost abstraction around it that has it.' */
    private static void innermostAbstraction() {
        CHECKS.right("\\x.\\x.x", "\\\\0");
        CHECKS.right("\\x.(\\x.x)x", "\\@\\00");
        CHECKS.right("\\x.(\\y.x)x y", "\\@@\\10y");
        CHECKS.right("(\\x.x)x", "@\\0x");
        CHECKS.right("x(\\x.x)x", "@@x\\0x");
        CHECKS.right("\\x y x.x y", "\\\\\\@01");
        CHECKS.right("\\x.(\\y.(\\z.x y z)z)y", "\\@\\@\\@@210zy");
        CHECKS.right("\\f x.#2 f x", "\\\\@@\\\\@1@1010");
    }
}
