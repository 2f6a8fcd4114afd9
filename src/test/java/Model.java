/**
 * The document's words over again, on trees and by recursion, so that it shares no idea with the
 * program that it is compared with. It keeps no room and needs a deep stack.
 */
final class Model {
    private static final int GREATEST = 2000;

    private final Tree[] slots = new Tree[12];
    private String tape = "";
    private int place = -1;
    private int how = 0;

    /** A leaf (its code is its byte, or for a bound variable -1 minus the index), \ or @. */
    private static final class Tree {
        final int code;
        final Tree left;
        final Tree right;
        final int size;

        Tree(int code, Tree left, Tree right) {
            this.code = code;
            this.left = left;
            this.right = right;
            this.size = 1 + (left == null ? 0 : left.size) + (right == null ? 0 : right.size);
        }

        boolean isApplication() {
            return right != null;
        }

        boolean isAbstraction() {
            return left != null && right == null;
        }

        boolean isLeaf(int wanted) {
            return left == null && code == wanted;
        }
    }

    private static Tree leaf(int code) {
        return new Tree(code, null, null);
    }

    private static Tree index(int index) {
        return leaf(-1 - index);
    }

    private static Tree lambda(Tree body) {
        return new Tree('\\', body, null);
    }

    private static Tree at(Tree function, Tree argument) {
        return new Tree('@', function, argument);
    }

    int feed(long bytes, int n) {
        if (n < 1 || n > 8) {
            throw new IllegalArgumentException();
        }
        if (tape.length() + n > 400) {
            throw new IllegalStateException();
        }
        for (int i = n; i > 0; i--) {
            tape += (char) (bytes >> 8 * (i - 1) & 255);
        }
        return tape.length();
    }

    int read(int slot) {
        slot(slot);
        Parser parser = new Parser(tape);
        tape = "";
        place = -1;
        Tree tree = parser.whole();
        place = tree == null ? parser.at : -1;
        if (tree == null || tree.size > GREATEST) {
            throw new IllegalArgumentException();
        }
        slots[slot] = tree;
        return tree.size;
    }

    int place() {
        return place;
    }

    int size(int slot) {
        return slot(slot) == null ? 0 : slot(slot).size;
    }

    int print(int slot, int i) {
        Tree tree = slot(slot);
        if (tree == null || i < 0 || i >= tree.size) {
            throw new IndexOutOfBoundsException();
        }
        int left = i;
        while (left > 0) {
            left--;
            if (left >= tree.left.size) {
                left -= tree.left.size;
                tree = tree.right;
            } else {
                tree = tree.left;
            }
        }
        return tree.code >= 0 ? tree.code : 48 + Math.min(99, -1 - tree.code);
    }

    void copy(int from, int to) {
        slot(to);
        slots[to] = slot(from);
    }

    int apply(int f, int a, int to) {
        slot(f);
        slot(a);
        slot(to);
        return keep(to, at(term(f), term(a)));
    }

    int bind(int slot, int letter) {
        slot(slot);
        letter(letter);
        return keep(slot, lambda(bound(term(slot), letter, 0)));
    }

    int redexes(int slot) {
        slot(slot);
        return redexes(term(slot));
    }

    int reduce(int slot, int n) {
        slot(slot);
        steps(n);
        Tree tree = term(slot);
        int done = 0;
        while (true) {
            Tree next = step(tree);
            how = next == null ? 1 : done == n ? 2 : next.size > GREATEST ? 3 : 0;
            if (how != 0) {
                slots[slot] = tree;
                return done;
            }
            tree = next;
            done++;
        }
    }

    int how() {
        return how;
    }

    int abstracted(int slot) {
        slot(slot);
        Tree tree = term(slot);
        for (Tree next = withoutLast(tree); next != null; next = withoutLast(tree)) {
            tree = next;
            if (tree.size > GREATEST) {
                throw new IllegalStateException();
            }
        }
        return keep(slot, tree);
    }

    int numeral(int slot, int n) {
        slot(slot);
        steps(n);
        Tree before = term(slot);
        keep(slot, at(at(before, leaf('F')), leaf('X')));
        reduce(slot, n);
        Tree after = slots[slot];
        slots[slot] = before;
        if (how != 1) {
            return -2;
        }
        int count = 0;
        while (after.isApplication() && after.left.isLeaf('F')) {
            after = after.right;
            count++;
        }
        return after.isLeaf('X') ? count : -1;
    }

    boolean same(int a, int b) {
        Tree first = slot(a);
        Tree second = slot(b);
        return first == null || second == null ? first == second : same(first, second);
    }

    boolean has(int slot, int letter) {
        slot(slot);
        letter(letter);
        return slot(slot) != null && has(slot(slot), letter);
    }

    private Tree slot(int slot) {
        if (slot < 0 || slot > 11) {
            throw new IllegalArgumentException();
        }
        return slots[slot];
    }

    private void letter(int letter) {
        if (letter < 97 || letter > 122) {
            throw new IllegalArgumentException();
        }
    }

    private void steps(int n) {
        if (n < 1 || n > 400) {
            throw new IllegalArgumentException();
        }
    }

    private Tree term(int slot) {
        if (slots[slot] == null) {
            throw new IllegalStateException();
        }
        return slots[slot];
    }

    private int keep(int slot, Tree tree) {
        if (tree.size > GREATEST) {
            throw new IllegalStateException();
        }
        slots[slot] = tree;
        return tree.size;
    }

    private static Tree bound(Tree tree, int letter, int depth) {
        if (tree.isAbstraction()) {
            return lambda(bound(tree.left, letter, depth + 1));
        }
        if (tree.isApplication()) {
            return at(bound(tree.left, letter, depth), bound(tree.right, letter, depth));
        }
        return tree.isLeaf(letter) ? index(depth) : tree;
    }

    private static boolean same(Tree a, Tree b) {
        if (a == null || b == null) {
            return a == b;
        }
        return a.code == b.code && same(a.left, b.left) && same(a.right, b.right);
    }

    private static boolean has(Tree tree, int code) {
        return tree != null && (tree.code == code || has(tree.left, code) || has(tree.right, code));
    }

    /** What an application becomes, or null when it is no redex. */
    private static Tree contracted(Tree tree) {
        if (!tree.isApplication()) {
            return null;
        }
        Tree a = tree.left;
        if (a.isAbstraction()) {
            return substituted(a.left, tree.right, 0);
        }
        if (a.isLeaf('I')) {
            return tree.right;
        }
        if (!a.isApplication()) {
            return null;
        }
        if (a.left.isLeaf('K')) {
            return a.right;
        }
        if (a.left.isApplication() && a.left.left.isLeaf('S')) {
            return at(at(a.left.right, tree.right), at(a.right, tree.right));
        }
        return null;
    }

    private static int redexes(Tree tree) {
        if (tree == null) {
            return 0;
        }
        return (contracted(tree) == null ? 0 : 1) + redexes(tree.left) + redexes(tree.right);
    }

    private static Tree step(Tree tree) {
        Tree here = contracted(tree);
        if (here != null || tree.left == null) {
            return here;
        }
        Tree left = step(tree.left);
        if (left != null) {
            return new Tree(tree.code, left, tree.right);
        }
        Tree right = tree.right == null ? null : step(tree.right);
        return right == null ? null : at(tree.left, right);
    }

    private static Tree substituted(Tree tree, Tree argument, int depth) {
        if (tree.isAbstraction()) {
            return lambda(substituted(tree.left, argument, depth + 1));
        }
        if (tree.isApplication()) {
            return at(substituted(tree.left, argument, depth), substituted(tree.right, argument, depth));
        }
        int index = -1 - tree.code;
        if (index == depth) {
            return shifted(argument, depth, 0);
        }
        return index > depth ? index(index - 1) : tree;
    }

    private static Tree shifted(Tree tree, int by, int depth) {
        if (tree.isAbstraction()) {
            return lambda(shifted(tree.left, by, depth + 1));
        }
        if (tree.isApplication()) {
            return at(shifted(tree.left, by, depth), shifted(tree.right, by, depth));
        }
        int index = -1 - tree.code;
        return index >= depth && index >= 0 ? index(index + by) : tree;
    }

    /** The tree without its last abstraction, or null when it has none. */
    private static Tree withoutLast(Tree tree) {
        if (tree.left == null) {
            return null;
        }
        Tree right = tree.right == null ? null : withoutLast(tree.right);
        if (right != null) {
            return at(tree.left, right);
        }
        Tree left = withoutLast(tree.left);
        if (left != null) {
            return new Tree(tree.code, left, tree.right);
        }
        return tree.isAbstraction() ? combinators(tree.left) : null;
    }

    private static Tree combinators(Tree body) {
        if (body.isLeaf(-1)) {
            return leaf('I');
        }
        if (!has(body, -1)) {
            return at(leaf('K'), shifted(body, -1, 0));
        }
        if (body.right.isLeaf(-1) && !has(body.left, -1)) {
            return shifted(body.left, -1, 0);
        }
        return at(at(leaf('S'), combinators(body.left)), combinators(body.right));
    }

    /** By descent: a rule answers null when the text is wrong, which it then is at the place. */
    private static final class Parser {
        private final String text;
        private int at = 0;
        private int depth = 0;

        Parser(String text) {
            this.text = text;
        }

        private int next() {
            return at < text.length() ? text.charAt(at) : -1;
        }

        private int nextButBlanks() {
            while (next() == ' ') {
                at++;
            }
            return next();
        }

        private boolean isNextDigit() {
            return next() >= '0' && next() <= '9';
        }

        private static boolean isName(int code) {
            return code >= 'a' && code <= 'z';
        }

        Tree whole() {
            Tree tree = term("");
            return tree != null && at < text.length() ? null : tree;
        }

        private Tree term(String names) {
            Tree tree = atom(names);
            while (tree != null && nextButBlanks() != -1 && isAtomNext()) {
                Tree argument = atom(names);
                tree = argument == null ? null : at(tree, argument);
            }
            return tree;
        }

        private boolean isAtomNext() {
            return "SKI#(\\".indexOf(next()) >= 0 || isName(next());
        }

        private Tree atom(String names) {
            int code = nextButBlanks();
            if (code == -1 || !isAtomNext() || code == '(' && depth == 20) {
                return null;
            }
            at++;
            if (code == '(') {
                return parenthesized(names);
            }
            if (code == '\\') {
                return abstraction(names, false);
            }
            if (code == '#') {
                return numeral();
            }
            int known = names.lastIndexOf(code);
            return known >= 0 ? index(names.length() - 1 - known) : leaf(code);
        }

        private Tree parenthesized(String names) {
            depth++;
            Tree tree = term(names);
            if (tree == null || nextButBlanks() != ')') {
                return null;
            }
            at++;
            depth--;
            return tree;
        }

        private Tree abstraction(String names, boolean named) {
            int code = nextButBlanks();
            if (!isName(code) && !(named && code == '.')) {
                return null;
            }
            at++;
            if (code == '.') {
                return term(names);
            }
            Tree body = abstraction(names + (char) code, true);
            return body == null ? null : lambda(body);
        }

        private Tree numeral() {
            if (!isNextDigit()) {
                return null;
            }
            int number = next() - '0';
            at++;
            if (isNextDigit()) {
                number = 10 * number + next() - '0';
                at++;
            }
            Tree tree = index(0);
            for (int i = 0; i < number; i++) {
                tree = at(index(1), tree);
            }
            return lambda(lambda(tree));
        }
    }
}
