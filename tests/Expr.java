import java.util.ArrayList;
import java.util.HashMap;
import java.util.List;
import java.util.Map;

/**
 * A term as it is written in the edge tests: 5 is a NUMBER, a to z are the VARIABLEs of the names 0 to 25, G0 to
 * G7 the GLOBALs, nil is NIL; (\ x b) LAMBDA, (@ f a ..) APPLY of one argument or more, (let x v b), (rec x v b),
 * (force x v b), (+ a b) and likewise - * < and =, (: h t) CONS, (match l n h t c), (test n a b), (c3 n) CENTRE 3.
 * What a run gives is written likewise, with fn for a function, and ? for what was not evaluated.
 */
final class Expr {
    private static final String[] SIGNS = {"+", "-", "*", "<", "="};

    private final String head;
    private final List<Expr> parts;

    private Expr(String head, List<Expr> parts) {
        this.head = head;
        this.parts = parts;
    }

    // ---- reading

    static Expr of(String text) {
        String[] words = text.replace("(", " ( ").replace(")", " ) ").trim().split("\\s+");
        int[] at = {0};
        Expr read = read(words, at);
        if (at[0] != words.length) {
            throw new IllegalStateException("more than one term: " + text);
        }
        return read;
    }

    private static Expr read(String[] words, int[] at) {
        String word = words[at[0]++];
        if (!word.equals("(")) {
            return new Expr(word, List.of());
        }
        String head = words[at[0]++];
        List<Expr> parts = new ArrayList<>();
        while (!words[at[0]].equals(")")) {
            parts.add(read(words, at));
        }
        at[0]++;
        Expr read = new Expr(head, parts);
        return head.equals("@") ? read.nested() : read;
    }

    /** (@ f a b) is (@ (@ f a) b). */
    private Expr nested() {
        Expr function = parts.get(0);
        for (Expr argument : parts.subList(1, parts.size())) {
            function = new Expr("@", List.of(function, argument));
        }
        return function;
    }

    // ---- what it is

    private boolean isVariable() {
        return parts.isEmpty() && head.length() == 1 && head.charAt(0) >= 'a' && head.charAt(0) <= 'z';
    }

    private int name(int part) {
        return parts.get(part).head.charAt(0) - 'a';
    }

    private static int sign(String head) {
        for (int i = 0; i < SIGNS.length; i++) {
            if (SIGNS[i].equals(head)) {
                return i;
            }
        }
        throw new IllegalStateException("no such term: " + head);
    }

    private Expr part(int i) {
        return parts.get(i);
    }

    String text() {
        StringBuilder text = new StringBuilder(head);
        for (Expr part : parts) {
            text.append(' ').append(part.text());
        }
        return parts.isEmpty() ? head : "(" + text + ")";
    }

    // ---- making its nodes; one that was made already is used again

    int make(SpinelessHall hall, Map<String, Integer> made) {
        Integer known = made.get(text());
        if (known == null) {
            known = makeNode(hall, made);
            made.put(text(), known);
        }
        return known;
    }

    private int makeNode(SpinelessHall hall, Map<String, Integer> made) {
        if (isVariable()) {
            return hall.variable(head.charAt(0) - 'a');
        }
        if (parts.isEmpty()) {
            return head.equals("nil") ? hall.nil()
                    : head.startsWith("G") ? hall.global(head.charAt(1) - '0') : hall.number(Long.parseLong(head));
        }
        int[] nodes = new int[parts.size()];
        for (int i = 0; i < nodes.length; i++) {
            nodes[i] = isName(i) ? -1 : part(i).make(hall, made);
        }
        switch (head) {
            case "\\":
                return hall.lambda(name(0), nodes[1]);
            case "@":
                return hall.apply(nodes[0], nodes[1]);
            case "let":
                return hall.let(name(0), nodes[1], nodes[2], false);
            case "rec":
                return hall.let(name(0), nodes[1], nodes[2], true);
            case ":":
                return hall.cons(nodes[0], nodes[1]);
            case "match":
                return hall.match(nodes[0], nodes[1], 26 * name(2) + name(3), nodes[4]);
            case "test":
                return hall.test(nodes[0], nodes[1], nodes[2]);
            default:
                return isCentre() ? hall.centre(head.charAt(1) - '0', nodes[0])
                        : hall.primitive(sign(head), nodes[0], nodes[1]);
        }
    }

    private boolean isCentre() {
        return head.length() == 2 && head.charAt(0) == 'c';
    }

    /** A part that is a name which is bound, and no node. */
    private boolean isName(int part) {
        return isBinder() && part == 0 || head.equals("match") && (part == 2 || part == 3);
    }

    private boolean isBinder() {
        return head.equals("\\") || head.equals("let") || head.equals("rec") || head.equals("force");
    }

    // ---- its size, and the print of a core, as promise 19 tells it

    int size() {
        int size = 1;
        for (int i = 0; i < parts.size(); i++) {
            size += isName(i) ? 0 : part(i).size();
        }
        return size;
    }

    private static final class Printer {
        private long print = 9;
        private int bound;

        private void add(long... numbers) {
            for (long number : numbers) {
                print = 31 * print + number;
            }
        }

        private Map<String, Integer> bind(Expr name, Map<String, Integer> scope) {
            Map<String, Integer> inner = new HashMap<>(scope);
            inner.put(name.head, bound++);
            return inner;
        }

        private void node(Expr e, Map<String, Integer> scope) {
            if (e.isVariable()) {
                add(2, scope.get(e.head));
                return;
            }
            switch (e.head) {
                case "nil":
                    add(10);
                    break;
                case "\\":
                    add(4);
                    node(e.part(1), bind(e.part(0), scope));
                    break;
                case "let":
                case "force":
                    add(e.head.equals("let") ? 6 : 8);
                    node(e.part(1), scope);
                    node(e.part(2), bind(e.part(0), scope));
                    break;
                case "rec": {
                    add(7);
                    Map<String, Integer> inner = bind(e.part(0), scope);
                    node(e.part(1), inner);
                    node(e.part(2), inner);
                    break;
                }
                case "match":
                    add(12);
                    node(e.part(0), scope);
                    node(e.part(1), scope);
                    node(e.part(4), bind(e.part(3), bind(e.part(2), scope)));
                    break;
                default:
                    other(e, scope);
                    break;
            }
        }

        private void other(Expr e, Map<String, Integer> scope) {
            if (e.parts.isEmpty()) {
                boolean isGlobal = e.head.startsWith("G");
                add(isGlobal ? 3 : 1, Long.parseLong(isGlobal ? e.head.substring(1) : e.head));
                return;
            }
            switch (e.head) {
                case "@":
                    add(5);
                    break;
                case ":":
                    add(11);
                    break;
                case "test":
                    add(13);
                    break;
                default:
                    add(e.isCentre() ? 14 : 9, e.isCentre() ? e.head.charAt(1) - '0' : sign(e.head));
                    break;
            }
            for (Expr part : e.parts) {
                node(part, scope);
            }
        }
    }

    long corePrint() {
        Printer printer = new Printer();
        printer.node(this, Map.of());
        return printer.print;
    }

    // ---- the print of what a run gives, as "Evaluation" tells it

    long runPrint() {
        return runPrint(7);
    }

    private long runPrint(long before) {
        switch (head) {
            case "fn":
                return 31 * before + 2;
            case "nil":
                return 31 * before + 3;
            case "?":
                return 31 * before + 5;
            case ":":
                return part(1).runPrint(part(0).runPrint(31 * before + 4));
            default:
                return 31 * (31 * before + 1) + Long.parseLong(head);
        }
    }
}
