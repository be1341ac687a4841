/** Promises 14, 15 and 17 to 22: definitions, rules, cores, parameters, and what they need. */
public final class DefinitionsTest {
    private static void defines() {
        SpinelessHall h = new SpinelessHall();
        int x = h.variable(3);
        int one = h.number(1);
        int function = h.lambda(3, x);
        Check.gives("define", 2, () -> h.define(0, function));
        Check.gives("define in place of what it is", 1, () -> h.define(0, one));
        Check.gives("core", Check.fold(9, 1, 1), () -> h.core(0));
        Check.refuses("no such node", Check.INDEX, () -> h.define(8, 3));
        Check.refuses("no such node", Check.INDEX, () -> h.define(0, -1));
        Check.refuses("definition 8", Check.ARGUMENT, () -> h.define(8, x));
        Check.refuses("definition -1", Check.ARGUMENT, () -> h.define(-1, one));
        Check.refuses("a free name", Check.STATE, () -> h.define(0, x));
        Check.gives("nothing is changed", Check.fold(9, 1, 1), () -> h.core(0));
        Check.refuses("size of what is not defined", Check.INDEX, () -> h.size(1));
        Check.refuses("size of -1", Check.INDEX, () -> h.size(-1));
        Check.refuses("size of 8", Check.INDEX, () -> h.size(8));
        Check.refuses("size of the least", Check.INDEX, () -> h.size(Integer.MIN_VALUE));
        Check.refuses("core of what is not defined", Check.INDEX, () -> h.core(7));
        Check.refuses("core of the most", Check.INDEX, () -> h.core(Integer.MAX_VALUE));
        Check.refuses("parameters of what is not defined", Check.INDEX, () -> h.parameters(2));
        Check.refuses("parameters of 8", Check.INDEX, () -> h.parameters(8));
    }

    private static void scopes() {
        SpinelessHall h = new SpinelessHall();
        int x = h.variable(0);
        int y = h.variable(1);
        int one = h.number(1);
        Check.refuses("a LET does not bind in its value", Check.STATE, () -> h.define(0, h.let(0, x, one, false)));
        Check.gives("a LETREC does", 3, () -> h.define(0, h.let(0, x, one, true)));
        Check.gives("a LET binds in its body", 3, () -> h.define(0, h.let(0, one, x, false)));
        Check.refuses("a MATCH does not bind in its list", Check.STATE, () -> h.define(0, h.match(x, one, 1, one)));
        Check.refuses("a MATCH does not bind for NIL", Check.STATE, () -> h.define(0, h.match(one, y, 1, one)));
        Check.gives("a MATCH binds the head", 4, () -> h.define(0, h.match(one, one, 1, x)));
        Check.gives("a MATCH binds the tail", 4, () -> h.define(0, h.match(one, one, 1, y)));
        Check.refuses("a LAMBDA binds its name alone", Check.STATE, () -> h.define(0, h.lambda(0, y)));
        int inner = h.lambda(0, x);
        Check.refuses("not outside", Check.STATE, () -> h.define(0, h.apply(inner, x)));
    }

    private static void prints() {
        SpinelessHall h = new SpinelessHall();
        int x = h.variable(0);
        int y = h.variable(1);
        int n = h.number(-7);
        h.define(0, n);
        Check.gives("NUMBER", Check.fold(9, 1, -7), () -> h.core(0));
        h.define(0, h.global(5));
        Check.gives("GLOBAL", Check.fold(9, 3, 5), () -> h.core(0));
        h.define(0, h.lambda(0, h.lambda(1, h.apply(y, x))));
        Check.gives("LAMBDA, APPLY", Check.fold(9, 4, 4, 5, 2, 1, 2, 0), () -> h.core(0));
        h.define(0, h.lambda(0, h.let(0, h.lambda(1, y), h.cons(x, x), false)));
        Check.gives("LET is bound behind its value", Check.fold(9, 4, 6, 4, 2, 1, 11, 2, 2, 2, 2), () -> h.core(0));
        h.define(0, h.lambda(0, h.let(0, h.lambda(1, h.cons(x, y)), x, true)));
        Check.gives("LETREC ahead of it", Check.fold(9, 4, 7, 4, 11, 2, 1, 2, 2, 2, 1), () -> h.core(0));
        h.define(0, h.match(h.nil(), h.lambda(0, x), 26, h.cons(x, h.cons(y, h.lambda(0, x)))));
        Check.gives("MATCH", Check.fold(9, 12, 10, 4, 2, 0, 11, 2, 2, 11, 2, 1, 4, 2, 3), () -> h.core(0));
        h.define(0, h.test(n, h.centre(4, n), h.primitive(3, n, n)));
        Check.gives("TEST", Check.fold(9, 13, 1, -7, 14, 4, 1, -7, 9, 3, 1, -7, 1, -7), () -> h.core(0));
        h.define(0, h.let(0, n, h.primitive(0, x, n), false));
        h.pass(SpinelessHall.STRICT);
        Check.gives("FORCE", Check.fold(9, 8, 1, -7, 9, 0, 2, 0, 1, -7), () -> h.core(0));
        int f = h.lambda(0, x);
        h.define(0, h.let(0, f, h.lambda(0, x), false));
        Check.gives("a LET ahead of a LAMBDA", Check.fold(9, 6, 4, 2, 0, 4, 2, 2), () -> h.core(0));
    }

    private static void rules() {
        SpinelessHall h = new SpinelessHall();
        int[][] wrong = {{-1, 0, 0, 0}, {3, 0, 0, 0}, {0, -1, 0, 0}, {0, 8, 0, 0}, {0, 0, -1, 0}, {0, 0, 8, 0},
            {0, 0, 0, -1}, {0, 0, 0, 8}};
        for (int[] w : wrong) {
            Check.refuses("a wrong rule", Check.ARGUMENT, () -> h.rule(w[0], w[1], w[2], w[3]));
        }
        for (int i = 1; i <= 10; i++) {
            Check.gives("rule", i, () -> h.rule(2, 7, 7, 7));
        }
        Check.refuses("rule 11", Check.STATE, () -> h.rule(0, 0, 0, 0));
        for (int[] w : wrong) {
            Check.refuses("a wrong rule 11", Check.ARGUMENT, () -> h.rule(w[0], w[1], w[2], w[3]));
        }
    }

    private static void resets() {
        SpinelessHall h = new SpinelessHall();
        int n = h.number(2);
        int sum = h.primitive(0, n, n);
        h.define(3, sum);
        h.define(6, h.cons(sum, sum));
        Check.gives("pass", 3, () -> h.pass(SpinelessHall.SIMPLIFY));
        Check.gives("size now", 1, () -> h.size(3));
        Check.gives("core now", Check.fold(9, 11, 1, 4, 1, 4), () -> h.core(6));
        Check.gives("reset", 2, h::reset);
        Check.gives("size as told", 3, () -> h.size(3));
        Check.gives("core as told", Check.fold(9, 9, 0, 1, 2, 1, 2), () -> h.core(3));
        h.define(3, n);
        Check.gives("reset", 2, h::reset);
        Check.gives("defined anew", 1, () -> h.size(3));
    }

    private static int lambdas(SpinelessHall h, int count, int body) {
        int node = body;
        for (int name = count - 1; name >= 0; name--) {
            node = h.lambda(name, node);
        }
        return node;
    }

    private static long needsOf(SpinelessHall h, int definition) {
        long mask = 0;
        for (int i = 0; i < h.parameters(definition); i++) {
            mask |= Check.bit(h.needs(definition, i)) << i;
        }
        return mask;
    }

    private static void parameters() {
        SpinelessHall h = new SpinelessHall();
        int x = h.variable(0);
        for (int count = 1; count <= 6; count++) {
            h.define(0, lambdas(h, count, x));
            Check.gives("parameters of " + count, Math.min(count, 4), () -> h.parameters(0));
        }
        Check.gives("what begins with five needs none", 0, () -> needsOf(h, 0));
        Check.refuses("no fifth parameter", Check.INDEX, () -> Check.bit(h.needs(0, 4)));
        Check.refuses("no fifth parameter", Check.INDEX, () -> Check.bit(h.isAbsent(0, 4)));
        Check.gives("the first one occurs", 0, () -> Check.bit(h.isAbsent(0, 0)));
        Check.gives("the second one is absent", 1, () -> Check.bit(h.isAbsent(0, 1)));
        h.define(1, h.nil());
        Check.gives("no parameters", 0, () -> h.parameters(1));
        Check.refuses("none", Check.INDEX, () -> Check.bit(h.needs(1, 0)));
        Check.refuses("none", Check.INDEX, () -> Check.bit(h.isAbsent(1, 0)));
        Check.refuses("parameter -1", Check.INDEX, () -> Check.bit(h.needs(0, -1)));
        Check.refuses("parameter -1", Check.INDEX, () -> Check.bit(h.isAbsent(0, -1)));
        Check.refuses("not defined", Check.INDEX, () -> Check.bit(h.needs(2, 0)));
        Check.refuses("not defined", Check.INDEX, () -> Check.bit(h.isAbsent(-1, 0)));
        h.define(2, h.lambda(0, h.lambda(0, x)));
        Check.gives("the inner one of the same name is meant", 2, () -> needsOf(h, 2));
        Check.gives("the outer one is absent", 1, () -> Check.bit(h.isAbsent(2, 0)));
        Check.gives("the inner one is not", 0, () -> Check.bit(h.isAbsent(2, 1)));
        h.define(3, h.lambda(0, h.cons(x, x)));
        Check.gives("not needed", 0, () -> needsOf(h, 3));
        Check.gives("but not absent", 0, () -> Check.bit(h.isAbsent(3, 0)));
    }

    private static void needsOfNodes() {
        SpinelessHall h = new SpinelessHall();
        int a = h.variable(0);
        int b = h.variable(1);
        int c = h.variable(2);
        int z = h.variable(9);
        int one = h.number(1);
        int[][] due = {
            {one, 0}, {a, 1}, {h.nil(), 0}, {h.cons(a, b), 0}, {h.centre(0, h.lambda(9, a)), 0}, {h.global(7), 0},
            {h.apply(a, b), 1}, {h.apply(h.apply(a, b), c), 1}, {h.primitive(3, a, c), 5},
            {h.let(9, a, h.primitive(0, z, b), false), 3}, {h.let(9, a, b, false), 2},
            {h.let(9, a, h.cons(z, b), false), 0}, {h.let(9, a, h.primitive(0, z, b), true), 2},
            {h.let(9, a, h.let(9, z, z, false), false), 1}, {h.let(9, a, h.let(9, b, z, false), false), 2},
            {h.match(a, b, 26 * 9 + 8, c), 1}, {h.match(a, b, 26 * 9 + 8, h.primitive(0, b, z)), 3},
            {h.test(a, h.primitive(0, b, c), b), 3}, {h.test(a, c, h.primitive(0, b, c)), 5},
            {h.centre(1, h.primitive(0, a, a)), 1}, {h.apply(h.lambda(9, a), b), 0},
        };
        for (int[] d : due) {
            h.define(0, lambdas(h, 3, d[0]));
            Check.gives("needs of node " + d[0], d[1], () -> needsOf(h, 0));
            h.pass(SpinelessHall.STRICT);
            Check.gives("needs of node " + d[0] + ", strict", d[1], () -> needsOf(h, 0));
        }
    }

    private static void needsOfCalls() {
        SpinelessHall h = new SpinelessHall();
        int a = h.variable(0);
        int b = h.variable(1);
        int c = h.variable(2);
        int callee = h.global(1);
        h.define(1, lambdas(h, 2, a));
        int less = h.apply(callee, a);
        int same = h.apply(less, b);
        int more = h.apply(same, c);
        int other = h.apply(h.apply(callee, h.primitive(0, b, c)), a);
        int[][] due = {{less, 0}, {same, 1}, {more, 1}, {other, 6}, {h.apply(h.centre(0, callee), a), 0}};
        for (int[] d : due) {
            h.define(0, lambdas(h, 3, d[0]));
            Check.gives("needs of call " + d[0], d[1], () -> needsOf(h, 0));
        }
        h.define(0, lambdas(h, 3, same));
        h.define(1, lambdas(h, 2, b));
        Check.gives("needs as the called one is now", 2, () -> needsOf(h, 0));
        h.define(0, lambdas(h, 3, h.apply(h.apply(h.global(5), a), b)));
        Check.gives("of what is not defined none", 0, () -> needsOf(h, 0));
    }

    private static void needsInCircles() {
        SpinelessHall h = new SpinelessHall();
        int a = h.variable(0);
        int b = h.variable(1);
        int one = h.number(1);
        h.define(0, h.lambda(0, h.apply(h.global(0), a)));
        Check.gives("what only calls itself needs it", 1, () -> needsOf(h, 0));
        int again = h.apply(h.apply(h.global(1), h.primitive(1, a, one)), h.primitive(0, b, one));
        h.define(1, lambdas(h, 2, h.test(a, again, b)));
        Check.gives("a sum that is carried is needed", 3, () -> needsOf(h, 1));
        h.define(1, lambdas(h, 2, h.test(a, again, one)));
        Check.gives("one that is dropped is not", 1, () -> needsOf(h, 1));
        h.define(2, h.lambda(0, h.apply(h.global(3), a)));
        h.define(3, h.lambda(0, h.apply(h.global(2), a)));
        Check.gives("two that call one another", 1, () -> needsOf(h, 2));
        h.define(3, h.lambda(0, h.test(one, one, h.apply(h.global(2), a))));
        Check.gives("one of them does not need it", 0, () -> needsOf(h, 3));
        Check.gives("then the other one does not", 0, () -> needsOf(h, 2));
    }

    public static void main(String[] args) {
        defines();
        scopes();
        prints();
        rules();
        resets();
        parameters();
        needsOfNodes();
        needsOfCalls();
        needsInCircles();
        Check.end("DefinitionsTest");
    }
}
