/**
 * A bench for terms of the lambda calculus and of combinators: read from texts, reduced step by
 * step from the left outermost redex on, abstracted to S, K and I, compared, counted as numerals,
 * printed.
 */
public final class LambdaBench {
    private static final int SLOTS = 12;
    private static final int GREATEST = 2000;
    private static final int MOST_STEPS = 400;
    private static final int LONGEST_TEXT = 400;
    private static final int MOST_PARENTHESES = 20;
    private static final int MOST_BYTES = 8;

    private static final int NOTHING = 0;
    private static final int APPLICATION = '@';
    private static final int ABSTRACTION = '\\';
    private static final int S = 'S';
    private static final int K = 'K';
    private static final int I = 'I';
    /** The two letters of a numeral's reading: no text and no bind can make them. */
    private static final int FIRST_LETTER = 1;
    private static final int SECOND_LETTER = 2;
    /** The code of index 0. It is above all other codes, so that one comparison tells an index. */
    private static final int BOUND = 1000;

    private static final int PRINTED_INDEX = '0';
    private static final int GREATEST_PRINTED_INDEX = 99;

    private static final int NOWHERE = -1;
    private static final int NO_NUMERAL = -1;
    private static final int NOT_SETTLED = -2;

    private static final int NONE_WAS = 0;
    private static final int NO_REDEX = 1;
    private static final int NO_FUEL = 2;
    private static final int TOO_GREAT = 3;

    private final Term[] slots;
    private final Term work;
    private final Tape tape;
    private final Grammar grammar;
    private final Builder builder;
    private final Depths depths;
    private final Reducer reducer;
    private final Abstractor abstractor;
    private int wrongAt;

    public LambdaBench() {
        slots = new Term[SLOTS];
        for (int i = 0; i < SLOTS; i++) {
            slots[i] = new Term();
        }
        work = new Term();
        tape = new Tape();
        grammar = new Grammar();
        builder = new Builder();
        depths = new Depths();
        reducer = new Reducer();
        abstractor = new Abstractor();
        wrongAt = NOWHERE;
    }

    public int feed(long bytes, int n) throws IllegalArgumentException, IllegalStateException {
        if (n < 1 || n > MOST_BYTES) {
            throw new IllegalArgumentException("1 to 8 bytes");
        }
        if (tape.length() + n > LONGEST_TEXT) {
            throw new IllegalStateException("the tape is full");
        }
        for (int i = n - 1; i >= 0; i--) {
            tape.add((int) (bytes >>> (8 * i)) & 255);
        }
        return tape.length();
    }

    public int read(int slot) throws IllegalArgumentException {
        requireSlot(slot);
        wrongAt = grammar.firstWrong(tape);
        if (wrongAt == NOWHERE) {
            builder.build(tape, grammar, work);
        }
        tape.clear();
        if (wrongAt != NOWHERE) {
            throw new IllegalArgumentException("the text is wrong");
        }
        if (work.isTooGreat()) {
            throw new IllegalArgumentException("the text's term is too great");
        }
        slots[slot].become(work);
        return work.length();
    }

    public int place() {
        return wrongAt;
    }

    public int size(int slot) throws IllegalArgumentException {
        requireSlot(slot);
        return slots[slot].length();
    }

    public int print(int slot, int i) throws IllegalArgumentException, IndexOutOfBoundsException {
        requireSlot(slot);
        Term term = slots[slot];
        if (i < 0 || i >= term.length()) {
            throw new IndexOutOfBoundsException("outside the printing");
        }
        int code = term.at(i);
        if (code < BOUND) {
            return code;
        }
        return PRINTED_INDEX + Math.min(code - BOUND, GREATEST_PRINTED_INDEX);
    }

    public void copy(int from, int to) throws IllegalArgumentException {
        requireSlot(from);
        requireSlot(to);
        slots[to].become(slots[from]);
    }

    public int apply(int f, int a, int to) throws IllegalArgumentException, IllegalStateException {
        requireSlot(f);
        requireSlot(a);
        requireSlot(to);
        requireTerm(f);
        requireTerm(a);
        work.clear();
        work.add(APPLICATION);
        work.addAll(slots[f]);
        work.addAll(slots[a]);
        if (work.isTooGreat()) {
            throw new IllegalStateException("the application is too great");
        }
        slots[to].become(work);
        return work.length();
    }

    public int bind(int slot, int letter) throws IllegalArgumentException, IllegalStateException {
        requireSlot(slot);
        requireLetter(letter);
        requireTerm(slot);
        Term term = slots[slot];
        depths.measure(term, 0);
        work.clear();
        work.add(ABSTRACTION);
        for (int i = 0; i < term.length(); i++) {
            int code = term.at(i);
            work.add(code == letter ? BOUND + depths.at(i) : code);
        }
        if (work.isTooGreat()) {
            throw new IllegalStateException("the abstraction is too great");
        }
        term.become(work);
        return work.length();
    }

    public int redexes(int slot) throws IllegalArgumentException, IllegalStateException {
        requireSlot(slot);
        requireTerm(slot);
        Term term = slots[slot];
        int count = 0;
        for (int i = 0; i < term.length(); i++) {
            if (term.redexHead(i) != NOTHING) {
                count++;
            }
        }
        return count;
    }

    public int reduce(int slot, int n) throws IllegalArgumentException, IllegalStateException {
        requireSlot(slot);
        requireSteps(n);
        requireTerm(slot);
        int done = reducer.run(slots[slot], n);
        slots[slot].become(reducer.result());
        return done;
    }

    public int how() {
        return reducer.outcome();
    }

    public int abstracted(int slot) throws IllegalArgumentException, IllegalStateException {
        requireSlot(slot);
        requireTerm(slot);
        if (!abstractor.run(slots[slot])) {
            throw new IllegalStateException("the abstracted term is too great");
        }
        slots[slot].become(abstractor.result());
        return slots[slot].length();
    }

    public int numeral(int slot, int n) throws IllegalArgumentException, IllegalStateException {
        requireSlot(slot);
        requireSteps(n);
        requireTerm(slot);
        work.clear();
        work.add(APPLICATION);
        work.add(APPLICATION);
        work.addAll(slots[slot]);
        work.add(FIRST_LETTER);
        work.add(SECOND_LETTER);
        if (work.isTooGreat()) {
            throw new IllegalStateException("the term is too great with two letters");
        }
        reducer.run(work, n);
        return reducer.outcome() == NO_REDEX ? timesApplied(reducer.result()) : NOT_SETTLED;
    }

    public boolean same(int a, int b) throws IllegalArgumentException {
        requireSlot(a);
        requireSlot(b);
        return slots[a].isLike(slots[b]);
    }

    public boolean has(int slot, int letter) throws IllegalArgumentException {
        requireSlot(slot);
        requireLetter(letter);
        return slots[slot].contains(letter);
    }

    private void requireSlot(int slot) {
        if (slot < 0 || slot >= SLOTS) {
            throw new IllegalArgumentException("no such slot");
        }
    }

    private void requireLetter(int letter) {
        if (!isLetter(letter)) {
            throw new IllegalArgumentException("no such letter");
        }
    }

    private void requireSteps(int n) {
        if (n < 1 || n > MOST_STEPS) {
            throw new IllegalArgumentException("1 to 400 steps");
        }
    }

    private void requireTerm(int slot) {
        if (slots[slot].length() == 0) {
            throw new IllegalStateException("the slot has no term");
        }
    }

    /** How many times the first letter stands on the second one, if the term is nothing else. */
    private static int timesApplied(Term term) {
        int times = term.length() / 2;
        for (int i = 0; i < times; i++) {
            if (term.at(2 * i) != APPLICATION || term.at(2 * i + 1) != FIRST_LETTER) {
                return NO_NUMERAL;
            }
        }
        return term.at(2 * times) == SECOND_LETTER ? times : NO_NUMERAL;
    }

    private static boolean isLetter(int code) {
        return code >= 'a' && code <= 'z';
    }

    private static boolean isCombinator(int code) {
        return code == S || code == K || code == I;
    }

    private static boolean isDigit(int code) {
        return code >= '0' && code <= '9';
    }

    /**
     * A term as its row in the order of printing, which tells its tree without brackets; a bound
     * variable is BOUND plus its index there. A slot without a term holds an empty row.
     */
    private static final class Term {
        private final int[] codes;
        private int length;
        private boolean tooGreat;

        Term() {
            codes = new int[GREATEST];
        }

        int length() {
            return length;
        }

        /** Whether more was added than a term may have; what did not fit is lost. */
        boolean isTooGreat() {
            return tooGreat;
        }

        int at(int i) {
            return i >= 0 && i < length ? codes[i] : NOTHING;
        }

        void clear() {
            length = 0;
            tooGreat = false;
        }

        void add(int code) {
            if (length >= GREATEST) {
                tooGreat = true;
                return;
            }
            codes[length] = code;
            length++;
        }

        void addAll(Term other) {
            addPart(other, 0, other.length);
        }

        void addPart(Term other, int start, int end) {
            int count = end - start;
            if (start < 0 || count < 0 || end > other.length) {
                return;
            }
            if (length + count > GREATEST) {
                tooGreat = true;
                return;
            }
            System.arraycopy(other.codes, start, codes, length, count);
            length += count;
        }

        void become(Term other) {
            if (other != this) {
                clear();
                addAll(other);
            }
        }

        boolean isLike(Term other) {
            if (length != other.length) {
                return false;
            }
            for (int i = 0; i < length; i++) {
                if (codes[i] != other.codes[i]) {
                    return false;
                }
            }
            return true;
        }

        boolean contains(int code) {
            for (int i = 0; i < length; i++) {
                if (codes[i] == code) {
                    return true;
                }
            }
            return false;
        }

        /** Where the part that begins at start has ended. */
        int endOf(int start) {
            int open = 1;
            int i = start;
            while (i < length && open > 0) {
                int code = at(i);
                if (code == APPLICATION) {
                    open++;
                } else if (code != ABSTRACTION) {
                    open--;
                }
                i++;
            }
            return i;
        }

        /** What is applied in the redex that begins at i; NOTHING when there is no redex. */
        int redexHead(int i) {
            if (at(i) != APPLICATION) {
                return NOTHING;
            }
            int first = at(i + 1);
            if (first == ABSTRACTION || first == I) {
                return first;
            }
            if (first != APPLICATION) {
                return NOTHING;
            }
            int second = at(i + 2);
            if (second == K) {
                return K;
            }
            return second == APPLICATION && at(i + 3) == S ? S : NOTHING;
        }

        int firstRedex() {
            for (int i = 0; i < length; i++) {
                if (redexHead(i) != NOTHING) {
                    return i;
                }
            }
            return NOWHERE;
        }
    }

    /** The bytes that were fed and not read yet. */
    private static final class Tape {
        private final int[] bytes;
        private int length;

        Tape() {
            bytes = new int[LONGEST_TEXT];
        }

        int length() {
            return length;
        }

        int at(int i) {
            return i >= 0 && i < length ? bytes[i] : NOTHING;
        }

        void clear() {
            length = 0;
        }

        void add(int code) {
            if (length < LONGEST_TEXT) {
                bytes[length] = code;
                length++;
            }
        }

        /** The number behind the # at i, which one or two digits tell. */
        int numberBehind(int i) {
            int first = at(i + 1) - '0';
            int second = at(i + 2);
            return isDigit(second) ? 10 * first + second - '0' : first;
        }
    }

    /**
     * Finds where a text is wrong. It also counts the atoms of each TERM within it, since a row has
     * all applications of a TERM in front of its atoms.
     */
    private static final class Grammar {
        private static final int IN_TERM = 0;
        private static final int FIRST_NAME = 1;
        private static final int MORE_NAMES = 2;
        private static final int FIRST_DIGIT = 3;
        private static final int SECOND_DIGIT = 4;

        /** How many atoms a TERM has, by the place where it begins. */
        private final int[] atoms;
        /** Where the TERM around each open parenthesis begins. */
        private final int[] around;
        private int open;
        private int begin;
        private int state;

        Grammar() {
            atoms = new int[LONGEST_TEXT + 1];
            around = new int[MOST_PARENTHESES];
        }

        int atomsFrom(int place) {
            return place >= 0 && place <= LONGEST_TEXT ? atoms[place] : 0;
        }

        int firstWrong(Tape text) {
            open = 0;
            beginTerm(0);
            for (int i = 0; i < text.length(); i++) {
                if (!accepts(text.at(i), i)) {
                    return i;
                }
            }
            return mayEnd() ? NOWHERE : text.length();
        }

        private void beginTerm(int place) {
            state = IN_TERM;
            begin = place;
            atoms[begin] = 0;
        }

        private boolean mayEnd() {
            boolean whole = state == IN_TERM || state == SECOND_DIGIT;
            return whole && open == 0 && atoms[begin] > 0;
        }

        private boolean accepts(int code, int i) {
            if (state == FIRST_DIGIT) {
                state = SECOND_DIGIT;
                return isDigit(code);
            }
            if (state == SECOND_DIGIT) {
                state = IN_TERM;
                if (isDigit(code)) {
                    return true;
                }
            }
            if (code == ' ') {
                return true;
            }
            return state == IN_TERM ? acceptsInTerm(code, i) : acceptsInNames(code, i);
        }

        private boolean acceptsInNames(int code, int i) {
            if (isLetter(code)) {
                state = MORE_NAMES;
                return true;
            }
            if (state == MORE_NAMES && code == '.') {
                beginTerm(i + 1);
                return true;
            }
            return false;
        }

        private boolean acceptsInTerm(int code, int i) {
            if (code == ')') {
                return closes();
            }
            if (code == '(') {
                return opens(i);
            }
            if (code == '\\') {
                state = FIRST_NAME;
            } else if (code == '#') {
                state = FIRST_DIGIT;
            } else if (!isLetter(code) && !isCombinator(code)) {
                return false;
            }
            atoms[begin]++;
            return true;
        }

        private boolean opens(int i) {
            if (open >= MOST_PARENTHESES) {
                return false;
            }
            atoms[begin]++;
            around[open] = begin;
            open++;
            beginTerm(i + 1);
            return true;
        }

        /** Abstractions end here, too: what follows belongs to the TERM around the parenthesis. */
        private boolean closes() {
            if (open == 0 || atoms[begin] == 0) {
                return false;
            }
            open--;
            begin = around[open];
            return true;
        }
    }

    /** Makes the term of a text that the grammar has found right. */
    private static final class Builder {
        /** The letters of the abstractions around, the outermost first. */
        private final int[] names;
        /** How many letters there were at each open parenthesis. */
        private final int[] namesAround;
        private int known;
        private int open;

        Builder() {
            names = new int[LONGEST_TEXT];
            namesAround = new int[MOST_PARENTHESES];
        }

        void build(Tape text, Grammar grammar, Term into) {
            known = 0;
            open = 0;
            into.clear();
            addApplications(grammar.atomsFrom(0), into);
            boolean naming = false;
            for (int i = 0; i < text.length(); i++) {
                int code = text.at(i);
                if (code == '\\') {
                    naming = true;
                } else if (code == '.') {
                    naming = false;
                    addApplications(grammar.atomsFrom(i + 1), into);
                } else if (code == '(') {
                    opens();
                    addApplications(grammar.atomsFrom(i + 1), into);
                } else if (code == ')') {
                    closes();
                } else if (code == '#') {
                    addNumeral(text.numberBehind(i), into);
                } else if (naming && isLetter(code)) {
                    addAbstraction(code, into);
                } else if (isLetter(code)) {
                    into.add(meaningOf(code));
                } else if (isCombinator(code)) {
                    into.add(code);
                }
            }
        }

        private void addApplications(int atoms, Term into) {
            for (int i = 1; i < atoms; i++) {
                into.add(APPLICATION);
            }
        }

        private void opens() {
            if (open < MOST_PARENTHESES) {
                namesAround[open] = known;
                open++;
            }
        }

        private void closes() {
            if (open > 0) {
                open--;
                known = namesAround[open];
            }
        }

        private void addNumeral(int number, Term into) {
            into.add(ABSTRACTION);
            into.add(ABSTRACTION);
            for (int i = 0; i < number; i++) {
                into.add(APPLICATION);
                into.add(BOUND + 1);
            }
            into.add(BOUND);
        }

        private void addAbstraction(int letter, Term into) {
            if (known < LONGEST_TEXT) {
                names[known] = letter;
                known++;
                into.add(ABSTRACTION);
            }
        }

        private int meaningOf(int letter) {
            for (int i = known - 1; i >= 0; i--) {
                if (names[i] == letter) {
                    return BOUND + known - 1 - i;
                }
            }
            return letter;
        }
    }

    /** How many abstractions of a part stand around each place in it. */
    private static final class Depths {
        private final int[] depths;
        /** The depths of the parts that are still to come, the next one last. */
        private final int[] waiting;

        Depths() {
            depths = new int[GREATEST];
            waiting = new int[GREATEST + 2];
        }

        int at(int i) {
            return i >= 0 && i < GREATEST ? depths[i] : 0;
        }

        /** Measures the part that begins at start, and tells where it has ended. */
        int measure(Term term, int start) {
            int count = 1;
            waiting[0] = 0;
            int i = start;
            while (i < term.length() && count > 0) {
                count--;
                int depth = waiting[count];
                depths[i] = depth;
                int code = term.at(i);
                if (code == APPLICATION) {
                    waiting[count] = depth;
                    waiting[count + 1] = depth;
                    count += 2;
                } else if (code == ABSTRACTION) {
                    waiting[count] = depth + 1;
                    count++;
                }
                i++;
            }
            return i;
        }
    }

    /** Does steps on a term, to and fro between two rows. */
    private static final class Reducer {
        private final Depths depths;
        private Term now;
        private Term next;
        private int outcome;

        Reducer() {
            depths = new Depths();
            now = new Term();
            next = new Term();
            outcome = NONE_WAS;
        }

        int outcome() {
            return outcome;
        }

        Term result() {
            return now;
        }

        int run(Term term, int steps) {
            now.become(term);
            for (int done = 0; done < steps; done++) {
                int redex = now.firstRedex();
                if (redex == NOWHERE) {
                    outcome = NO_REDEX;
                    return done;
                }
                writeStep(redex);
                if (next.isTooGreat()) {
                    outcome = TOO_GREAT;
                    return done;
                }
                Term before = now;
                now = next;
                next = before;
            }
            outcome = now.firstRedex() == NOWHERE ? NO_REDEX : NO_FUEL;
            return steps;
        }

        private void writeStep(int redex) {
            next.clear();
            next.addPart(now, 0, redex);
            int end = writeReplacement(redex);
            next.addPart(now, end, now.length());
        }

        /** Writes what comes in place of the redex, and tells where the redex has ended. */
        private int writeReplacement(int redex) {
            int head = now.redexHead(redex);
            if (head == ABSTRACTION) {
                return writeBody(redex + 2);
            }
            if (head == S) {
                return writeShared(redex + 4);
            }
            int kept = head == K ? redex + 3 : redex + 2;
            int end = now.endOf(kept);
            next.addPart(now, kept, end);
            return head == K ? now.endOf(end) : end;
        }

        private int writeShared(int first) {
            int second = now.endOf(first);
            int third = now.endOf(second);
            int end = now.endOf(third);
            next.add(APPLICATION);
            next.add(APPLICATION);
            next.addPart(now, first, second);
            next.addPart(now, third, end);
            next.add(APPLICATION);
            next.addPart(now, second, end);
            return end;
        }

        private int writeBody(int body) {
            int argument = depths.measure(now, body);
            int end = depths.measure(now, argument);
            for (int i = body; i < argument && !next.isTooGreat(); i++) {
                int code = now.at(i);
                int own = BOUND + depths.at(i);
                if (code == own) {
                    writeArgument(argument, end, depths.at(i));
                } else {
                    next.add(code > own ? code - 1 : code);
                }
            }
            return end;
        }

        /** The argument stands under more abstractions now: its outward indices reach over them. */
        private void writeArgument(int argument, int end, int more) {
            for (int i = argument; i < end && !next.isTooGreat(); i++) {
                int code = now.at(i);
                next.add(code >= BOUND + depths.at(i) ? code + more : code);
            }
        }
    }

    /** Takes the abstractions out of a term, to and fro between two rows. */
    private static final class Abstractor {
        /** Where the part that begins at a place has ended. */
        private final int[] ends;
        /** How often the variable stands before a place. */
        private final int[] uses;
        private Term now;
        private Term next;

        Abstractor() {
            ends = new int[GREATEST + 1];
            uses = new int[GREATEST + 1];
            now = new Term();
            next = new Term();
        }

        Term result() {
            return now;
        }

        /** Whether the term was at no time too great. */
        boolean run(Term term) {
            now.become(term);
            for (int i = term.length() - 1; i >= 0; i--) {
                if (now.at(i) == ABSTRACTION) {
                    writeWithout(i);
                    if (next.isTooGreat()) {
                        return false;
                    }
                    Term before = now;
                    now = next;
                    next = before;
                }
            }
            return true;
        }

        private void writeWithout(int abstraction) {
            int body = abstraction + 1;
            int end = now.endOf(body);
            measure(body, end);
            next.clear();
            next.addPart(now, 0, abstraction);
            int written = body;
            for (int i = body; i < end && !next.isTooGreat(); i++) {
                if (i >= written) {
                    written = writePart(i);
                }
            }
            next.addPart(now, end, now.length());
        }

        /** The body has no abstraction, so that its variable has index 0 everywhere in it. */
        private void measure(int body, int end) {
            ends[end] = end;
            for (int i = end - 1; i >= body; i--) {
                ends[i] = now.at(i) == APPLICATION ? ends[ends[i + 1]] : i + 1;
            }
            uses[body] = 0;
            for (int i = body; i < end; i++) {
                uses[i + 1] = uses[i] + (now.at(i) == BOUND ? 1 : 0);
            }
        }

        /** Writes the part at i, or only its S when both its parts are to follow; tells how far. */
        private int writePart(int i) {
            int end = ends[i];
            if (now.at(i) == BOUND) {
                next.add(I);
                return end;
            }
            if (!isUsed(i, end)) {
                next.add(APPLICATION);
                next.add(K);
                writeOutside(i, end);
                return end;
            }
            int argument = ends[i + 1];
            if (now.at(argument) == BOUND && !isUsed(i + 1, argument)) {
                writeOutside(i + 1, argument);
                return end;
            }
            next.add(APPLICATION);
            next.add(APPLICATION);
            next.add(S);
            return i + 1;
        }

        private boolean isUsed(int start, int end) {
            return uses[end] > uses[start];
        }

        /** Writes a part without the variable; its indices no longer reach over the abstraction. */
        private void writeOutside(int start, int end) {
            for (int i = start; i < end; i++) {
                int code = now.at(i);
                next.add(code > BOUND ? code - 1 : code);
            }
        }
    }
}
