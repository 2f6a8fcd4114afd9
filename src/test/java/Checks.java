/** What the tests share: feeding texts, printing rows, and counting the answers that are not due. */
final class Checks {
    static final String ARGUMENT = "IllegalArgumentException";
    static final String STATE = "IllegalStateException";
    static final String BOUNDS = "IndexOutOfBoundsException";

    private int wrong = 0;

    interface Call {
        Object answer();
    }

    interface Action {
        void act();
    }

    void due(String what, Object got, Object want) {
        if (!got.equals(want)) {
            wrong++;
            System.out.println(what + " answered " + got + ", due is " + want);
        }
    }

    void throwing(String what, String exception, Call call) {
        due(what, answerOf(call), exception);
    }

    void throwing(String what, String exception, Action action) {
        throwing(what, exception, (Call) () -> {
            action.act();
            return "nothing thrown";
        });
    }

    /** A text that is right, and its term's row. */
    void right(String text, String row) {
        LambdaBench bench = new LambdaBench();
        due("read of " + text, answerOf(() -> read(bench, 3, text)), row.length());
        due("row of " + text, row(bench, 3), row);
        due("place of " + text, bench.place(), -1);
    }

    /** A text that is wrong, and where. */
    void wrong(String text, int place) {
        LambdaBench bench = new LambdaBench();
        read(bench, 3, "k");
        throwing("read of " + text, ARGUMENT, () -> read(bench, 3, text));
        due("place of " + text, bench.place(), place);
        due("slot after " + text, row(bench, 3), "k");
        due("tape after " + text, bench.feed('a', 1), 1);
    }

    /** Ends the test: with exit code 1 when an answer was not due. */
    void end() {
        System.out.println(wrong == 0 ? "all answers are as due" : wrong + " answers are not as due");
        if (wrong != 0) {
            System.exit(1);
        }
    }

    /** The answer of a call, or the name of the exception that it throws. */
    static Object answerOf(Call call) {
        try {
            return call.answer();
        } catch (RuntimeException e) {
            return e.getClass().getSimpleName();
        }
    }

    static int feed(LambdaBench bench, String text) {
        int fed = 0;
        for (int start = 0; start < text.length(); start += 8) {
            int n = Math.min(8, text.length() - start);
            long bytes = 0;
            for (int i = 0; i < n; i++) {
                bytes = bytes << 8 | text.charAt(start + i);
            }
            fed = bench.feed(bytes, n);
        }
        return fed;
    }

    static int read(LambdaBench bench, int slot, String text) {
        feed(bench, text);
        return bench.read(slot);
    }

    static String row(LambdaBench bench, int slot) {
        StringBuilder row = new StringBuilder();
        int size = bench.size(slot);
        for (int i = 0; i < size; i++) {
            row.append((char) bench.print(slot, i));
        }
        return row.toString();
    }

    /** A new bench with the texts' terms in slots 0, 1 and so on. */
    static LambdaBench with(String... texts) {
        LambdaBench bench = new LambdaBench();
        for (int slot = 0; slot < texts.length; slot++) {
            read(bench, slot, texts[slot]);
        }
        return bench;
    }

    /** A short text of a term of a size (2 is none), which has no redex, not even when applied. */
    static String sized(int size) {
        StringBuilder text = new StringBuilder("a");
        int left = size - 1;
        if (left % 2 == 1) {
            text.append("(\\y.a)");
            left -= 3;
        }
        for (; left > 2; left -= 2 * Math.min(101, left / 2)) {
            text.append("#").append(Math.min(101, left / 2) - 2);
        }
        return text.append(left == 2 ? "a" : "").toString();
    }

    /** Puts a row of letters of a size (odd) into a slot; slot 11 is used for it, too. */
    static void fill(LambdaBench bench, int slot, int size) {
        read(bench, slot, "a".repeat(Math.min(400, (size + 1) / 2)));
        for (int left = size - bench.size(slot); left > 0; left = size - bench.size(slot)) {
            read(bench, 11, "a".repeat(Math.min(400, left / 2)));
            bench.apply(slot, 11, slot);
        }
    }
}
