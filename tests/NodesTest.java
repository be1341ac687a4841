/** Promises 1 to 13: a new object, and the nodes. */
public final class NodesTest {
    private static final int MOST = Integer.MAX_VALUE;
    private static final int LEAST = Integer.MIN_VALUE;

    private static void newObject() {
        SpinelessHall h = new SpinelessHall();
        Check.refuses("lambda of a node of a new object", Check.INDEX, () -> h.lambda(0, 0));
        Check.gives("reset of a new object", 0, h::reset);
        Check.refuses("size of a new object", Check.INDEX, () -> h.size(0));
        Check.gives("the first rule", 1, () -> h.rule(0, 0, 0, 0));
        Check.gives("steps without a run", 0, h::steps);
        Check.gives("cellsMade without a run", 0, h::cellsMade);
        Check.gives("entered without a run", 0, () -> h.entered(5));
        Check.gives("the first node", 0, h::nil);
    }

    private static void numbersInOrder() {
        SpinelessHall h = new SpinelessHall();
        Check.gives("number", 0, () -> h.number(Long.MIN_VALUE));
        Check.gives("variable", 1, () -> h.variable(25));
        Check.gives("global", 2, () -> h.global(7));
        Check.gives("lambda", 3, () -> h.lambda(25, 1));
        Check.gives("apply", 4, () -> h.apply(3, 0));
        Check.gives("let", 5, () -> h.let(25, 0, 1, false));
        Check.gives("letrec", 6, () -> h.let(25, 1, 1, true));
        Check.gives("primitive", 7, () -> h.primitive(4, 0, 0));
        Check.gives("nil", 8, h::nil);
        Check.gives("cons", 9, () -> h.cons(0, 8));
        Check.gives("match", 10, () -> h.match(9, 0, 26 * 25, 1));
        Check.gives("test", 11, () -> h.test(0, 0, 0));
        Check.gives("centre", 12, () -> h.centre(5, 0));
    }

    private static void outsideTheRange() {
        SpinelessHall h = new SpinelessHall();
        h.number(1);
        for (int wrong : new int[] {-1, 26, MOST, LEAST}) {
            Check.refuses("variable " + wrong, Check.ARGUMENT, () -> h.variable(wrong));
            Check.refuses("lambda " + wrong, Check.ARGUMENT, () -> h.lambda(wrong, 0));
            Check.refuses("let " + wrong, Check.ARGUMENT, () -> h.let(wrong, 0, 0, false));
            Check.refuses("letrec " + wrong, Check.ARGUMENT, () -> h.let(wrong, 0, 0, true));
        }
        for (int wrong : new int[] {-1, 8, MOST, LEAST}) {
            Check.refuses("global " + wrong, Check.ARGUMENT, () -> h.global(wrong));
        }
        for (int wrong : new int[] {-1, 5, MOST, LEAST}) {
            Check.refuses("primitive " + wrong, Check.ARGUMENT, () -> h.primitive(wrong, 0, 0));
        }
        for (int wrong : new int[] {-1, 6, MOST, LEAST}) {
            Check.refuses("centre " + wrong, Check.ARGUMENT, () -> h.centre(wrong, 0));
        }
        for (int wrong : new int[] {-1, 0, 27, 26 * 25 + 25, 676, MOST, LEAST}) {
            Check.refuses("match " + wrong, Check.ARGUMENT, () -> h.match(0, 0, wrong, 0));
        }
        Check.gives("the next node", 1, () -> h.match(0, 0, 26 * 25 + 24, 0));
        Check.gives("and the next one", 2, () -> h.match(0, 0, 1, 0));
    }

    private static void unmadeParts() {
        SpinelessHall h = new SpinelessHall();
        h.number(1);
        for (int wrong : new int[] {-1, 1, MOST, LEAST}) {
            Check.refuses("lambda", Check.INDEX, () -> h.lambda(99, wrong));
            Check.refuses("apply, function", Check.INDEX, () -> h.apply(wrong, 0));
            Check.refuses("apply, argument", Check.INDEX, () -> h.apply(0, wrong));
            Check.refuses("let, value", Check.INDEX, () -> h.let(99, wrong, 0, false));
            Check.refuses("let, body", Check.INDEX, () -> h.let(99, 0, wrong, true));
            Check.refuses("primitive, first", Check.INDEX, () -> h.primitive(99, wrong, 0));
            Check.refuses("primitive, second", Check.INDEX, () -> h.primitive(99, 0, wrong));
            Check.refuses("cons, head", Check.INDEX, () -> h.cons(wrong, 0));
            Check.refuses("cons, tail", Check.INDEX, () -> h.cons(0, wrong));
            Check.refuses("match, list", Check.INDEX, () -> h.match(wrong, 0, 0, 0));
            Check.refuses("match, ifNil", Check.INDEX, () -> h.match(0, wrong, 0, 0));
            Check.refuses("match, ifCons", Check.INDEX, () -> h.match(0, 0, 0, wrong));
            Check.refuses("test, number", Check.INDEX, () -> h.test(wrong, 0, 0));
            Check.refuses("test, ifSo", Check.INDEX, () -> h.test(0, wrong, 0));
            Check.refuses("test, ifNot", Check.INDEX, () -> h.test(0, 0, wrong));
            Check.refuses("centre", Check.INDEX, () -> h.centre(99, wrong));
        }
        Check.gives("the next node", 1, h::nil);
    }

    private static void fullOfNodes() {
        SpinelessHall h = new SpinelessHall();
        for (int i = 0; i < 120; i++) {
            Check.gives("node", i, h::nil);
        }
        Check.refuses("number 121", Check.STATE, () -> h.number(1));
        Check.refuses("variable 121", Check.STATE, () -> h.variable(1));
        Check.refuses("global 121", Check.STATE, () -> h.global(1));
        Check.refuses("lambda 121", Check.STATE, () -> h.lambda(1, 1));
        Check.refuses("apply 121", Check.STATE, () -> h.apply(1, 1));
        Check.refuses("let 121", Check.STATE, () -> h.let(1, 1, 1, false));
        Check.refuses("primitive 121", Check.STATE, () -> h.primitive(1, 1, 1));
        Check.refuses("nil 121", Check.STATE, h::nil);
        Check.refuses("cons 121", Check.STATE, () -> h.cons(1, 1));
        Check.refuses("match 121", Check.STATE, () -> h.match(1, 1, 1, 1));
        Check.refuses("test 121", Check.STATE, () -> h.test(1, 1, 1));
        Check.refuses("centre 121", Check.STATE, () -> h.centre(1, 1));
        Check.refuses("a wrong name comes first", Check.ARGUMENT, () -> h.variable(26));
        Check.refuses("a wrong definition comes first", Check.ARGUMENT, () -> h.global(8));
        Check.refuses("a wrong node comes first", Check.INDEX, () -> h.lambda(26, 120));
        Check.refuses("a wrong name comes second", Check.ARGUMENT, () -> h.lambda(26, 119));
        Check.refuses("like names come second", Check.ARGUMENT, () -> h.match(1, 1, 27, 1));
        Check.gives("the last node", 1, () -> h.define(0, 119));
    }

    /** Node 0 has the weight 1, node 1 the weight 2, and so on to 80. */
    private static SpinelessHall chain() {
        SpinelessHall h = new SpinelessHall();
        h.number(1);
        for (int i = 1; i < 80; i++) {
            int last = i - 1;
            Check.gives("chain", i, () -> h.centre(0, last));
        }
        return h;
    }

    private static void tooHeavy() {
        SpinelessHall h = chain();
        Check.refuses("centre of weight 81", Check.STATE, () -> h.centre(0, 79));
        Check.refuses("lambda of weight 81", Check.STATE, () -> h.lambda(0, 79));
        Check.refuses("apply of weight 81", Check.STATE, () -> h.apply(78, 0));
        Check.refuses("apply of weight 81", Check.STATE, () -> h.apply(0, 78));
        Check.refuses("let of weight 81", Check.STATE, () -> h.let(0, 39, 39, false));
        Check.refuses("letrec of weight 81", Check.STATE, () -> h.let(0, 0, 78, true));
        Check.refuses("primitive of weight 81", Check.STATE, () -> h.primitive(0, 39, 39));
        Check.refuses("cons of weight 81", Check.STATE, () -> h.cons(78, 0));
        Check.refuses("match of weight 81", Check.STATE, () -> h.match(0, 0, 1, 77));
        Check.refuses("match of weight 81", Check.STATE, () -> h.match(0, 77, 1, 0));
        Check.refuses("test of weight 81", Check.STATE, () -> h.test(77, 0, 0));
        Check.gives("apply of weight 80", 80, () -> h.apply(39, 38));
        Check.gives("let of weight 80", 81, () -> h.let(0, 38, 39, false));
        Check.gives("primitive of weight 80", 82, () -> h.primitive(0, 77, 0));
        Check.gives("cons of weight 80", 83, () -> h.cons(0, 77));
        Check.gives("match of weight 80", 84, () -> h.match(0, 0, 1, 76));
        Check.gives("test of weight 80", 85, () -> h.test(76, 0, 0));
        Check.gives("lambda of weight 80", 86, () -> h.lambda(0, 78));
        Check.gives("the size of a node of weight 80", 80, () -> h.define(0, 86));
        Check.gives("a shared part weighs each time", 79, () -> h.define(0, h.apply(38, 38)));
    }

    public static void main(String[] args) {
        newObject();
        numbersInOrder();
        outsideTheRange();
        unmadeParts();
        fullOfNodes();
        tooHeavy();
        Check.end("NodesTest");
    }
}
