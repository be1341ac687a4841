/** Promise 16: the passes. */
public final class PassesTest {
    private static final int SIMPLIFY = SpinelessHall.SIMPLIFY;
    private static final int FLOAT_IN = SpinelessHall.FLOAT_IN;
    private static final int FLOAT_OUT = SpinelessHall.FLOAT_OUT;
    private static final int ARITY = SpinelessHall.ARITY;
    private static final int STRICT = SpinelessHall.STRICT;

    private final SpinelessHall h = new SpinelessHall();
    private final int x = h.variable(0);
    private final int y = h.variable(1);
    private final int z = h.variable(2);
    private final int one = h.number(1);
    private final int two = h.number(2);
    private final int nil = h.nil();
    private final int other = h.global(7);
    // Nodes that no pass changes and that are no number, variable, global or lambda.
    private final int pair = h.cons(one, two);
    private final int identity = h.lambda(0, x);

    /** The core that a pass is to make of a node, told as another node is, in definition 1. */
    private void makes(String what, int pass, int changed, int node, int due) {
        h.define(0, node);
        Check.gives(what, changed, () -> h.pass(pass));
        long now = h.core(0);
        h.define(1, due);
        Check.gives(what + ", the core", h.core(1), () -> now);
        h.define(1, nil);
    }

    private void leaves(String what, int pass, int node) {
        makes(what, pass, 0, node, node);
    }

    private static void ranges() {
        SpinelessHall h = new SpinelessHall();
        for (int wrong : new int[] {-1, 8, Integer.MAX_VALUE, Integer.MIN_VALUE}) {
            Check.refuses("pass " + wrong, Check.ARGUMENT, () -> h.pass(wrong));
        }
        for (int pass = 0; pass < 8; pass++) {
            int right = pass;
            Check.gives("pass " + pass + " without definitions", 0, () -> h.pass(right));
        }
    }

    private void applications() {
        int used = h.primitive(0, x, x);
        makes("(1)", SIMPLIFY, 1, h.apply(h.lambda(0, used), two), h.let(0, two, used, false));
        makes("(1) but not what is made", SIMPLIFY, 1, h.apply(identity, pair), h.let(0, pair, x, false));
        int captured = h.lambda(1, h.apply(h.lambda(0, h.lambda(1, x)), y));
        makes("(1) keeps what names are bound to", SIMPLIFY, 1, captured,
                h.lambda(1, h.let(0, y, h.lambda(2, x), false)));
        for (boolean isRecursive : new boolean[] {false, true}) {
            int let = h.let(0, pair, h.cons(x, x), isRecursive);
            makes("(2)", SIMPLIFY, 1, h.apply(let, one), h.let(0, pair, h.apply(h.cons(x, x), one), isRecursive));
        }
        int outside = h.lambda(0, h.apply(h.let(0, pair, h.cons(x, x), false), x));
        makes("(2) keeps what names are bound to", SIMPLIFY, 1, outside,
                h.lambda(0, h.let(1, pair, h.apply(h.cons(y, y), x), false)));
        leaves("APPLY of what is none of these", SIMPLIFY, h.apply(pair, one));
        int twice = h.apply(h.apply(h.lambda(0, h.lambda(1, x)), one), two);
        makes("from the inside out", SIMPLIFY, 2, twice, h.let(0, one, h.apply(h.lambda(1, x), two), false));
    }

    private void applicationsOfForce() {
        int sum = h.primitive(0, x, one);
        h.define(0, h.apply(h.let(0, two, sum, false), two));
        h.pass(STRICT);
        Check.gives("(2) of FORCE", 1, () -> h.pass(SIMPLIFY));
        Check.gives("(2) of FORCE, the core", Check.fold(9, 8, 1, 2, 5, 9, 0, 2, 0, 1, 1, 1, 2), () -> h.core(0));
        h.define(0, h.test(h.let(0, two, sum, false), one, two));
        h.pass(STRICT);
        Check.gives("(8) of FORCE", 1, () -> h.pass(SIMPLIFY));
        Check.gives("(8) of FORCE, the core", Check.fold(9, 8, 1, 2, 13, 9, 0, 2, 0, 1, 1, 1, 1, 1, 2),
                () -> h.core(0));
        Check.gives("FORCE is no LET for the others", 0, () -> h.pass(SIMPLIFY));
        h.define(0, h.let(0, two, h.test(nil, x, x), false));
        h.pass(STRICT);
        Check.gives("nor here", 0, () -> h.pass(FLOAT_IN));
    }

    private void globals() {
        int small = h.lambda(0, h.cons(x, h.cons(x, h.cons(x, nil))));
        h.define(7, small);
        int call = h.apply(other, one);
        makes("(11) of a size of 8", SIMPLIFY, 1, call, h.apply(small, one));
        h.define(7, h.lambda(0, h.cons(x, h.cons(x, h.cons(x, h.centre(0, nil))))));
        leaves("(11) of a size of 9", SIMPLIFY, call);
        h.define(7, h.lambda(0, h.cons(x, h.global(6))));
        leaves("(11) with a GLOBAL", SIMPLIFY, call);
        h.define(7, nil);
        leaves("(11) of no LAMBDA", SIMPLIFY, call);
        leaves("(11) of what is not defined", SIMPLIFY, h.apply(h.global(6), one));
        h.define(7, identity);
        leaves("a GLOBAL that is not applied", SIMPLIFY, h.cons(other, one));
        makes("(11) within a name like its own", SIMPLIFY, 1, h.lambda(0, h.apply(other, x)),
                h.lambda(0, h.apply(h.lambda(1, y), x)));
    }

    private void coresAsTheyWere() {
        int callee = h.apply(h.lambda(1, y), x);
        h.define(0, h.lambda(0, callee));
        h.define(1, h.apply(h.global(0), one));
        h.define(2, h.apply(h.global(1), one));
        Check.gives("a pass over three", 2, () -> h.pass(SIMPLIFY));
        Check.gives("the first core", Check.fold(9, 4, 6, 2, 0, 2, 1), () -> h.core(0));
        Check.gives("the second, with the first as it was", Check.fold(9, 5, 4, 5, 4, 2, 1, 2, 0, 1, 1), () -> h.core(1));
        Check.gives("the third", Check.fold(9, 5, 3, 1, 1, 1), () -> h.core(2));
    }

    private void lets() {
        makes("(3)", SIMPLIFY, 1, h.let(0, pair, two, false), two);
        leaves("(3) not for LETREC", SIMPLIFY, h.let(0, pair, two, true));
        for (int value : new int[] {one, other}) {
            makes("(4)", SIMPLIFY, 1, h.let(0, value, h.cons(x, h.lambda(1, x)), false),
                    h.cons(value, h.lambda(1, value)));
        }
        makes("(4) of a VARIABLE", SIMPLIFY, 1, h.lambda(1, h.let(0, y, h.lambda(1, h.cons(x, y)), false)),
                h.lambda(1, h.lambda(2, h.cons(y, z))));
        leaves("(4) not of NIL, twice", SIMPLIFY, h.let(0, nil, h.cons(x, x), false));
        makes("(5)", SIMPLIFY, 1, h.let(0, pair, h.cons(one, x), false), h.cons(one, pair));
        leaves("(5) not within a LAMBDA", SIMPLIFY, h.let(0, pair, h.lambda(1, h.cons(x, y)), false));
        makes("(5) beside a LAMBDA", SIMPLIFY, 1, h.let(0, pair, h.cons(x, identity), false), h.cons(pair, identity));
        leaves("(5) not twice", SIMPLIFY, h.let(0, pair, h.cons(x, x), false));
        int six = h.lambda(1, h.cons(y, h.cons(y, y)));
        makes("(6) of a size of 6", SIMPLIFY, 1, h.let(0, six, h.cons(x, h.lambda(1, x)), false),
                h.cons(six, h.lambda(1, six)));
        leaves("(6) not of 7", SIMPLIFY, h.let(0, h.lambda(1, h.cons(y, h.cons(y, h.centre(0, y)))),
                h.cons(x, x), false));
        int free = h.lambda(1, h.let(0, h.lambda(2, y), h.cons(x, h.lambda(1, x)), false));
        makes("(6) keeps what names are bound to", SIMPLIFY, 1, free,
                h.lambda(1, h.cons(h.lambda(2, y), h.lambda(0, h.lambda(2, y)))));
    }

    private void copiedMatches() {
        int six = h.lambda(2, h.match(z, nil, 1, h.centre(0, y)));
        makes("(6) of a MATCH, twice", SIMPLIFY, 1, h.let(0, six, h.cons(x, x), false), h.cons(six, six));
        int again = h.let(0, h.let(0, six, h.cons(x, x), false), h.cons(x, x), false);
        makes("once in the value", SIMPLIFY, 1, again, h.let(0, h.cons(six, six), h.cons(x, x), false));
        int two = h.let(3, six, h.let(0, h.lambda(1, h.variable(3)), h.cons(x, x), false), false);
        makes("copies of copies", SIMPLIFY, 2, two, h.cons(h.lambda(1, six), h.lambda(1, six)));
        h.define(7, six);
        makes("(11) of a MATCH, twice", SIMPLIFY, 2, h.cons(h.apply(other, one), h.apply(other, one)),
                h.cons(h.apply(six, one), h.apply(six, one)));
    }

    private void matches() {
        makes("(7) of NIL", SIMPLIFY, 1, h.match(nil, two, 1, x), two);
        int cons = h.lambda(0, h.lambda(1, h.match(h.cons(y, x), two, 1, h.cons(x, y))));
        makes("(7) of CONS", SIMPLIFY, 1, cons, h.lambda(0, h.lambda(1,
                h.let(2, y, h.let(3, x, h.cons(z, h.variable(3)), false), false))));
        for (boolean isRecursive : new boolean[] {false, true}) {
            int let = h.let(0, pair, h.cons(x, x), isRecursive);
            makes("(8) of MATCH", SIMPLIFY, 1, h.match(let, two, 1, h.cons(x, y)),
                    h.let(0, pair, h.match(h.cons(x, x), two, 1, h.cons(x, y)), isRecursive));
            makes("(8) of TEST", SIMPLIFY, 1, h.test(let, two, one),
                    h.let(0, pair, h.test(h.cons(x, x), two, one), isRecursive));
        }
        leaves("MATCH of what is none of these", SIMPLIFY, h.match(other, one, 1, two));
        leaves("MATCH of a NUMBER", SIMPLIFY, h.match(one, one, 1, two));
        makes("(9) not 0", SIMPLIFY, 1, h.test(h.number(-1), pair, two), pair);
        makes("(9) 0", SIMPLIFY, 1, h.test(h.number(0), pair, two), two);
        leaves("TEST of NIL", SIMPLIFY, h.test(nil, pair, two));
    }

    private void primitives() {
        long most = Long.MAX_VALUE;
        long[][] due = {{0, most, 1, Long.MIN_VALUE}, {1, Long.MIN_VALUE, 1, most}, {2, most, 2, -2}, {3, 1, 2, 1},
            {3, 2, 2, 0}, {3, most, Long.MIN_VALUE, 0}, {4, 2, 2, 1}, {4, 1, 2, 0}};
        for (long[] d : due) {
            PassesTest t = new PassesTest();
            int node = t.h.primitive((int) d[0], t.h.number(d[1]), t.h.number(d[2]));
            t.makes("(10) of sign " + d[0], SIMPLIFY, 1, node, t.h.number(d[3]));
        }
        leaves("(10) of one NUMBER", SIMPLIFY, h.primitive(0, one, nil));
        int nested = h.primitive(0, h.primitive(0, one, one), two);
        makes("(10) from the inside out", SIMPLIFY, 2, nested, h.number(4));
        int dropped = h.test(one, two, h.primitive(0, one, one));
        makes("what is dropped later counts", SIMPLIFY, 2, dropped, two);
    }

    private void floatsIn() {
        for (int value : new int[] {pair, one}) {
            makes("for 0", FLOAT_IN, 1, h.let(0, value, h.test(other, two, h.cons(x, x)), false),
                    h.test(other, two, h.let(0, value, h.cons(x, x), false)));
            makes("for not 0", FLOAT_IN, 1, h.let(0, value, h.test(other, x, two), false),
                    h.test(other, h.let(0, value, x, false), two));
        }
        makes("for NIL", FLOAT_IN, 1, h.let(0, pair, h.match(other, x, 27 + 2, y), false),
                h.match(other, h.let(0, pair, x, false), 27 + 2, y));
        int inner = h.lambda(1, h.let(0, h.cons(y, y), h.match(other, two, 27 + 1, h.cons(x, y)), false));
        makes("for CONS, not into its names", FLOAT_IN, 1, inner, h.lambda(0, h.match(other, two, 26 + 2,
                h.let(3, h.cons(x, x), h.cons(h.variable(3), y), false))));
        leaves("into none", FLOAT_IN, h.let(0, pair, h.test(other, one, two), false));
        leaves("not into both", FLOAT_IN, h.let(0, pair, h.test(other, x, x), false));
        leaves("not if it is tested", FLOAT_IN, h.let(0, pair, h.test(h.cons(x, x), x, two), false));
        leaves("not for LETREC", FLOAT_IN, h.let(0, pair, h.test(other, x, two), true));
        leaves("not into another node", FLOAT_IN, h.let(0, pair, h.cons(x, two), false));
        int two2 = h.let(0, pair, h.let(1, pair, h.test(other, h.cons(x, y), two), false), false);
        makes("both of two", FLOAT_IN, 2, two2,
                h.test(other, h.let(0, pair, h.let(1, pair, h.cons(x, y), false), false), two));
    }

    private void floatsOut() {
        int body = h.cons(x, y);
        for (int value : new int[] {pair, nil, h.apply(other, one)}) {
            makes("out", FLOAT_OUT, 1, h.lambda(1, h.let(0, value, body, false)),
                    h.let(0, value, h.lambda(1, body), false));
        }
        for (int value : new int[] {one, other, identity}) {
            leaves("not such a value", FLOAT_OUT, h.lambda(1, h.let(0, value, body, false)));
        }
        leaves("not a VARIABLE", FLOAT_OUT, h.lambda(2, h.lambda(1, h.let(0, z, body, false))));
        leaves("not with its name", FLOAT_OUT, h.lambda(1, h.let(0, h.cons(y, y), body, false)));
        leaves("not LETREC", FLOAT_OUT, h.lambda(1, h.let(0, pair, body, true)));
        int outer = h.lambda(0, h.lambda(1, h.let(0, h.cons(x, x), body, false)));
        makes("past one, keeping what names are bound to", FLOAT_OUT, 1, outer,
                h.lambda(0, h.let(2, h.cons(x, x), h.lambda(1, h.cons(z, y)), false)));
        int far = h.lambda(0, h.lambda(1, h.let(2, pair, h.cons(z, z), false)));
        makes("past both, one after the other", FLOAT_OUT, 2, far,
                h.let(2, pair, h.lambda(0, h.lambda(1, h.cons(z, z))), false));
    }

    private void arities() {
        for (int value : new int[] {one, identity}) {
            makes("in", ARITY, 1, h.let(0, value, h.lambda(1, h.cons(x, y)), false),
                    h.lambda(1, h.let(0, value, h.cons(x, y), false)));
        }
        makes("a VARIABLE", ARITY, 1, h.lambda(1, h.let(0, y, h.lambda(1, h.cons(x, y)), false)),
                h.lambda(0, h.lambda(1, h.let(2, x, h.cons(z, y), false))));
        for (int value : new int[] {other, pair, nil}) {
            leaves("not such a value", ARITY, h.let(0, value, h.lambda(1, h.cons(x, y)), false));
        }
        leaves("not LETREC", ARITY, h.let(0, one, h.lambda(1, h.cons(x, y)), true));
        leaves("no LAMBDA", ARITY, h.let(0, one, h.cons(x, x), false));
    }

    private void strict() {
        int used = h.let(0, pair, h.primitive(0, x, one), false);
        h.define(0, used);
        Check.gives("strict", 1, () -> h.pass(STRICT));
        Check.gives("strict, the core", Check.fold(9, 8, 11, 1, 1, 1, 2, 9, 0, 2, 0, 1, 1), () -> h.core(0));
        leaves("not needed", STRICT, h.let(0, pair, h.cons(x, x), false));
        leaves("not LETREC", STRICT, h.let(0, pair, h.primitive(0, x, one), true));
        leaves("in one of two alone", STRICT, h.let(0, pair, h.test(one, x, one), false));
        h.define(2, h.lambda(0, h.test(x, h.apply(h.global(2), h.primitive(1, x, one)), two)));
        h.define(0, h.let(0, pair, h.apply(h.global(2), x), false));
        Check.gives("what a definition needs", 1, () -> h.pass(STRICT));
        h.define(0, h.let(0, one, h.let(1, two, h.primitive(0, x, y), false), false));
        Check.gives("two", 2, () -> h.pass(STRICT));
        Check.gives("two, the core", Check.fold(9, 8, 1, 1, 8, 1, 2, 9, 0, 2, 0, 2, 1), () -> h.core(0));
        h.define(0, h.let(0, one, h.let(1, x, y, false), false));
        Check.gives("needed for what is needed", 2, () -> h.pass(STRICT));
        h.define(0, h.let(0, one, h.let(1, x, two, false), false));
        Check.gives("needed for what is not needed", 0, () -> h.pass(STRICT));
    }

    private int call(int definition, int argument) {
        return h.apply(h.global(definition), argument);
    }

    private void rules() {
        h.rule(1, 2, 3, 4);
        h.rule(0, 2, 3, 5);
        h.rule(0, 2, 3, 6);
        h.rule(0, 5, 4, 7);
        int node = call(2, call(3, pair));
        makes("the first of its phase", 5, 1, node, call(5, pair));
        makes("another phase", 6, 1, node, call(4, pair));
        leaves("a phase without", 7, node);
        leaves("the other way round", 5, call(3, call(2, pair)));
        leaves("a GLOBAL of a GLOBAL", 5, h.apply(h.global(2), h.global(3)));
        leaves("a CONS of such ones", 5, h.cons(h.global(2), call(3, one)));
        leaves("of a number like its own", 5, h.apply(two, call(3, one)));
        leaves("to a CONS with one", 5, call(2, h.cons(h.global(3), one)));
        leaves("to a number like its own", 5, call(2, h.apply(h.number(3), one)));
        leaves("of two arguments", 5, h.apply(h.apply(h.global(2), h.global(3)), one));
        makes("what is made of the inner one", 5, 1, call(5, call(2, call(3, one))), call(5, call(5, one)));
        makes("what is made is an inner one", 6, 1, call(2, call(2, call(3, one))), call(2, call(4, one)));
        makes("both", 5, 2, call(2, call(3, call(5, call(4, one)))), call(5, call(7, one)));
    }

    /** A row of so many uses of the name 0, of a size of twice that, less 1. */
    private int uses(int count) {
        int node = x;
        for (int i = 1; i < count; i++) {
            node = h.cons(x, node);
        }
        return node;
    }

    private void tooLarge() {
        int five = h.lambda(1, h.cons(y, h.centre(0, y)));
        int six = h.lambda(1, h.cons(y, h.cons(y, y)));
        int seven = h.cons(six, nil);
        h.define(0, h.let(0, six, uses(21), false));
        Check.gives("as large as may be", 1, () -> h.pass(SIMPLIFY));
        Check.gives("its size", 146, () -> h.size(0));
        h.define(0, h.let(0, six, h.centre(1, h.centre(1, h.centre(1, h.centre(1, uses(21))))), false));
        Check.gives("150", 1, () -> h.pass(SIMPLIFY));
        Check.gives("its size", 150, () -> h.size(0));
        h.define(1, h.primitive(0, one, two));
        h.define(0, h.let(0, five, h.cons(uses(22), nil), false));
        Check.gives("of a size of 5", 2, () -> h.pass(SIMPLIFY));
        Check.gives("its size", 5 * 22 + 21 + 2, () -> h.size(0));
        h.define(1, h.primitive(0, one, two));
        h.define(0, h.let(0, six, h.centre(1, h.centre(1, h.centre(1, h.centre(1, h.centre(1, uses(21)))))), false));
        long core = h.core(0);
        Check.refuses("151", Check.STATE, () -> h.pass(SIMPLIFY));
        Check.gives("nothing is changed", core, () -> h.core(0));
        Check.gives("nor in the others", 3, () -> h.size(1));
        Check.gives("seven", 8, () -> h.define(2, seven));
    }

    private void tooLargeButDropped() {
        int six = h.lambda(1, h.cons(y, h.cons(y, y)));
        int large = h.let(0, six, uses(20), false);
        h.define(0, h.test(one, two, large));
        Check.gives("what is dropped may be large", 2, () -> h.pass(SIMPLIFY));
        Check.gives("two", 1, () -> h.size(0));
        int both = h.let(0, six, h.cons(uses(11), h.lambda(2, uses(11))), false);
        h.define(0, h.test(one, two, both));
        Check.refuses("but not a node above 150 in itself", Check.STATE, () -> h.pass(SIMPLIFY));
        Check.gives("nothing is changed", 3 + 51, () -> h.size(0));
    }

    public static void main(String[] args) {
        ranges();
        new PassesTest().applications();
        new PassesTest().applicationsOfForce();
        new PassesTest().globals();
        new PassesTest().coresAsTheyWere();
        new PassesTest().lets();
        new PassesTest().copiedMatches();
        new PassesTest().matches();
        new PassesTest().primitives();
        new PassesTest().floatsIn();
        new PassesTest().floatsOut();
        new PassesTest().arities();
        new PassesTest().strict();
        new PassesTest().rules();
        new PassesTest().tooLarge();
        new PassesTest().tooLargeButDropped();
        Check.end("PassesTest");
    }
}
