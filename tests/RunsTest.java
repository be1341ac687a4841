/** Promises 23 to 29: runs, going on with them, and what they tell. */
public final class RunsTest {
    private static final int NUMBER = SpinelessHall.NUMBER;
    private static final int FUNCTION = SpinelessHall.FUNCTION;
    private static final int LIST = SpinelessHall.LIST;
    private static final int STUCK = SpinelessHall.STUCK;
    private static final int LOOP = SpinelessHall.LOOP;
    private static final int TOO_FAR = SpinelessHall.TOO_FAR;

    private final SpinelessHall h = new SpinelessHall();
    private final int x = h.variable(0);
    private final int y = h.variable(1);
    private final int one = h.number(1);
    private final int two = h.number(2);
    private final int nil = h.nil();
    private final int sum = h.primitive(0, one, two);
    private final int identity = h.lambda(0, x);
    private final int stuck = h.apply(one, one);
    private final int loop = h.let(0, x, x, true);

    /** Runs a node; what comes of it, in so many steps, with so many cells made. */
    private void runs(String what, int node, int outcome, int steps, int cells) {
        h.define(0, node);
        Check.gives(what, outcome, () -> h.run(0, 1000, false));
        Check.gives(what + ", steps", steps, h::steps);
        Check.gives(what + ", cells", cells, h::cellsMade);
    }

    private void prints(String what, int live, long... numbers) {
        Check.gives(what + ", print", Check.fold(numbers), h::print);
        Check.gives(what + ", live", live, h::live);
    }

    private void endsWith(String what, int node, int outcome, int steps) {
        h.define(0, node);
        Check.gives(what, outcome, () -> h.run(0, 1000, false));
        Check.gives(what + ", steps", steps, h::steps);
        Check.refuses(what + ", print", Check.STATE, h::print);
        Check.refuses(what + ", live", Check.STATE, h::live);
        Check.refuses(what + ", goOn", Check.STATE, () -> h.goOn(1));
    }

    private void refuses() {
        Check.refuses("print without a run", Check.STATE, h::print);
        Check.refuses("live without a run", Check.STATE, h::live);
        Check.refuses("goOn without a run", Check.STATE, () -> h.goOn(1));
        h.define(0, sum);
        h.define(1, one);
        h.run(0, 1000, false);
        for (int wrong : new int[] {0, -1, 1001, Integer.MAX_VALUE, Integer.MIN_VALUE}) {
            Check.refuses("run of " + wrong, Check.ARGUMENT, () -> h.run(1, wrong, false));
            Check.refuses("run of what is not defined comes first", Check.INDEX, () -> h.run(2, wrong, true));
            Check.refuses("goOn of " + wrong, Check.ARGUMENT, () -> h.goOn(wrong));
        }
        for (int wrong : new int[] {-1, 2, 8, Integer.MAX_VALUE}) {
            Check.refuses("run of " + wrong, Check.INDEX, () -> h.run(wrong, 1, false));
        }
        for (int wrong : new int[] {-1, 6, Integer.MIN_VALUE}) {
            Check.refuses("entered " + wrong, Check.ARGUMENT, () -> h.entered(wrong));
        }
        Check.gives("the last run is as it was", 3, h::steps);
        Check.gives("its print, too", Check.fold(7, 1, 3), h::print);
        Check.refuses("goOn behind an end", Check.STATE, () -> h.goOn(1000));
    }

    private void values() {
        runs("a number", h.number(-5), NUMBER, 1, 0);
        prints("a number", 0, 7, 1, -5);
        runs("a function", identity, FUNCTION, 1, 0);
        prints("a function", 0, 7, 2);
        runs("nil", nil, LIST, 1, 0);
        prints("nil", 0, 7, 3);
        runs("a list", h.cons(sum, nil), LIST, 5, 2);
        prints("a list", 2, 7, 4, 1, 3, 3);
        runs("a list of anything", h.cons(h.cons(identity, one), identity), LIST, 5, 4);
        prints("a list of anything", 4, 7, 4, 4, 2, 1, 1, 2);
    }

    private void applications() {
        int doubled = h.lambda(0, h.primitive(0, x, x));
        runs("an argument is evaluated once", h.apply(doubled, sum), NUMBER, 8, 1);
        prints("an argument is evaluated once", 0, 7, 1, 6);
        runs("one that is not needed is not", h.apply(h.lambda(0, two), stuck), NUMBER, 3, 1);
        int passed = h.apply(h.lambda(1, h.apply(doubled, y)), sum);
        runs("for a variable no cell is made", passed, NUMBER, 10, 1);
        int let = h.let(1, sum, h.let(0, y, h.primitive(0, x, x), false), false);
        runs("but for the value of a LET", let, NUMBER, 9, 2);
        runs("for a global, too", h.apply(identity, h.global(1)), STUCK, 4, 1);
        int shadowed = h.apply(h.apply(h.lambda(0, h.lambda(0, x)), stuck), two);
        runs("the innermost one is meant", shadowed, NUMBER, 6, 2);
        int closed = h.let(0, one, h.let(1, h.lambda(1, x), h.let(0, two, h.apply(y, nil), false), false), false);
        runs("a function keeps what was bound", closed, NUMBER, 8, 4);
        prints("a function keeps what was bound", 0, 7, 1, 1);
        runs("a cell is made behind the function", h.apply(stuck, one), STUCK, 3, 0);
    }

    private void letsAndLists() {
        runs("LETREC", h.let(0, h.cons(one, x), x, true), LIST, 4, 2);
        Check.gives("LETREC, live", 2, h::live);
        runs("a variable as a head makes no cell", h.let(0, one, h.cons(x, x), false), LIST, 3, 1);
        prints("a variable as a head", 1, 7, 4, 1, 1, 1, 1);
        int list = h.cons(sum, nil);
        runs("MATCH of CONS makes none", h.match(list, nil, 1, h.primitive(2, x, x)), NUMBER, 8, 2);
        prints("MATCH of CONS", 0, 7, 1, 9);
        runs("MATCH of NIL", h.match(nil, two, 1, stuck), NUMBER, 3, 0);
        runs("the tail is the second name", h.match(list, nil, 1, y), LIST, 4, 2);
        runs("TEST", h.test(h.number(-1), one, stuck), NUMBER, 3, 0);
        runs("TEST of 0", h.test(h.number(0), stuck, two), NUMBER, 3, 0);
        h.define(0, h.let(0, sum, h.primitive(0, x, x), false));
        h.pass(SpinelessHall.STRICT);
        Check.gives("FORCE", NUMBER, () -> h.run(0, 1000, false));
        Check.gives("FORCE, steps", 7, h::steps);
        Check.gives("FORCE, cells", 1, h::cellsMade);
        Check.gives("FORCE, print", Check.fold(7, 1, 6), h::print);
        Check.gives("as told", NUMBER, () -> h.run(0, 1000, true));
        Check.gives("as told, steps", 7, h::steps);
        h.define(0, h.let(0, stuck, h.primitive(0, loop, x), false));
        Check.gives("as a LET", LOOP, () -> h.run(0, 1000, false));
        h.pass(SpinelessHall.STRICT);
        Check.gives("as a FORCE, its value comes first", STUCK, () -> h.run(0, 1000, false));
        Check.gives("no cell is made of it", 0, h::cellsMade);
        Check.gives("as told a LET", LOOP, () -> h.run(0, 1000, true));
    }

    private void primitives() {
        long most = Long.MAX_VALUE;
        long[][] due = {{0, most, 1, Long.MIN_VALUE}, {1, 2, 5, -3}, {1, Long.MIN_VALUE, 1, most}, {2, most, most, 1},
            {3, -1, 0, 1}, {3, 0, 0, 0}, {4, 3, 3, 1}, {4, 3, 4, 0}};
        for (long[] d : due) {
            RunsTest t = new RunsTest();
            int node = t.h.primitive((int) d[0], t.h.number(d[1]), t.h.number(d[2]));
            t.runs("sign " + d[0], node, NUMBER, 3, 0);
            t.prints("sign " + d[0], 0, 7, 1, d[3]);
        }
        endsWith("a list in it", h.primitive(0, nil, one), STUCK, 3);
        endsWith("a list behind", h.primitive(0, one, nil), STUCK, 3);
        endsWith("behind a list the second comes first", h.primitive(0, nil, loop), LOOP, 5);
        endsWith("but not behind STUCK", h.primitive(0, stuck, loop), STUCK, 3);
    }

    private void stuckAndLoops() {
        endsWith("a number as a function", stuck, STUCK, 2);
        endsWith("nil as a function", h.apply(nil, one), STUCK, 2);
        endsWith("MATCH of a number", h.match(one, one, 1, one), STUCK, 2);
        endsWith("MATCH of a function", h.match(identity, one, 1, one), STUCK, 2);
        endsWith("TEST of nil", h.test(nil, one, one), STUCK, 2);
        endsWith("TEST of a function", h.test(identity, one, one), STUCK, 2);
        endsWith("what is not defined", h.global(7), STUCK, 1);
        endsWith("a LOOP", loop, LOOP, 3);
        endsWith("a sum with itself", h.let(0, h.primitive(0, one, x), x, true), LOOP, 5);
        endsWith("a definition of itself", h.global(0), LOOP, 1);
        h.define(1, h.global(2));
        h.define(2, h.global(1));
        endsWith("two definitions of one another", h.global(1), LOOP, 3);
        endsWith("a STUCK head", h.cons(stuck, loop), STUCK, 3);
        endsWith("a tail that is a LOOP", h.cons(one, loop), LOOP, 5);
        endsWith("the head within the head first", h.cons(h.cons(one, stuck), loop), STUCK, 5);
    }

    private void twenty() {
        h.define(1, h.lambda(0, h.cons(x, h.apply(h.global(1), h.primitive(0, x, one)))));
        runs("a list without an end", h.apply(h.global(1), one), LIST, 2 + 1 + 1 + 1 + 9 * 3 + 10 * 3, 22);
        long p = 7;
        for (int i = 1; i <= 10; i++) {
            p = 31 * (31 * (31 * p + 4) + 1) + i;
        }
        long print = 31 * (31 * (31 * p + 4) + 5) + 5;
        Check.gives("ten heads and tails are in the print", print, h::print);
        int undefined = h.global(7);
        int deep = nil;
        for (int i = 0; i < 25; i++) {
            deep = h.cons(deep, undefined);
        }
        h.define(0, deep);
        Check.gives("20 heads ahead of any tail", LIST, () -> h.run(0, 1000, false));
        p = 7;
        for (int i = 0; i < 21; i++) {
            p = 31 * p + 4;
        }
        for (int i = 0; i < 22; i++) {
            p = 31 * p + 5;
        }
        long printOfHeads = p;
        Check.gives("the others are not evaluated", printOfHeads, h::print);
        Check.gives("a cell for each head and tail", 42, h::cellsMade);
        Check.gives("all of them live", 42, h::live);
        Check.gives("a step each", 21, h::steps);
        h.define(0, h.let(0, h.cons(x, x), x, true));
        Check.gives("a list of itself", LIST, () -> h.run(0, 1000, false));
        Check.gives("its steps", 3, h::steps);
        Check.gives("its print", printOfHeads, h::print);
        Check.gives("its cell", 1, h::live);
    }

    private void centres() {
        int counted = h.centre(0, h.primitive(0, one, h.centre(5, two)));
        h.define(0, h.let(0, counted, h.primitive(0, x, h.centre(2, x)), false));
        Check.gives("centres", NUMBER, () -> h.run(0, 1000, false));
        Check.gives("a cell is evaluated once", 1, () -> h.entered(0));
        Check.gives("in it, too", 1, () -> h.entered(5));
        Check.gives("where it is used", 1, () -> h.entered(2));
        Check.gives("another one", 0, () -> h.entered(1));
        Check.gives("a centre is a step", 10, h::steps);
        h.define(0, h.let(0, h.lambda(0, counted), h.primitive(0, h.apply(x, one), h.apply(x, one)), false));
        Check.gives("in a function", NUMBER, () -> h.run(0, 1000, false));
        Check.gives("each time", 2, () -> h.entered(0));
        h.define(0, h.centre(3, h.centre(3, stuck)));
        Check.gives("STUCK in a centre", STUCK, () -> h.run(0, 1000, false));
        Check.gives("entered ahead of it", 2, () -> h.entered(3));
        Check.gives("the run before does not count", 0, () -> h.entered(0));
        Check.gives("as far as it came", TOO_FAR, () -> h.run(0, 1, false));
        Check.gives("entered once so far", 1, () -> h.entered(3));
    }

    private void stops() {
        h.define(1, h.let(0, h.centre(1, sum), h.primitive(0, x, h.cons(x, x)), false));
        h.define(0, h.let(0, h.centre(1, sum), h.cons(x, h.cons(h.primitive(0, x, x), nil)), false));
        Check.gives("all at once", LIST, () -> h.run(0, 1000, false));
        int steps = h.steps();
        int cells = h.cellsMade();
        int live = h.live();
        long print = h.print();
        for (int first = 1; first <= steps; first++) {
            int given = first;
            Check.gives("run of " + given, given == steps ? LIST : TOO_FAR, () -> h.run(0, given, false));
            Check.gives("steps of " + given, given, h::steps);
            if (given < steps) {
                Check.refuses("print of TOO_FAR", Check.STATE, h::print);
                Check.refuses("live of TOO_FAR", Check.STATE, h::live);
                Check.gives("goOn", LIST, () -> h.goOn(given % 2 == 0 ? 1000 : steps - given));
            }
            Check.gives("steps in all", steps, h::steps);
            Check.gives("cells in all", cells, h::cellsMade);
            Check.gives("live", live, h::live);
            Check.gives("print", print, h::print);
            Check.gives("entered once", 1, () -> h.entered(1));
        }
    }

    private void stepByStep() {
        h.define(0, h.apply(h.lambda(0, h.primitive(0, x, x)), sum));
        Check.gives("step 1", TOO_FAR, () -> h.run(0, 1, false));
        for (int step = 2; step <= 8; step++) {
            int last = step;
            Check.gives("cells ahead of step " + step, last > 2 ? 1 : 0, h::cellsMade);
            Check.gives("step " + step, last == 8 ? NUMBER : TOO_FAR, () -> h.goOn(1));
        }
        Check.gives("print", Check.fold(7, 1, 6), h::print);
        Check.refuses("no further", Check.STATE, () -> h.goOn(1));
        h.define(0, h.primitive(0, one, nil));
        Check.gives("STUCK", TOO_FAR, () -> h.run(0, 2, false));
        Check.gives("STUCK", STUCK, () -> h.goOn(1));
        Check.refuses("no further", Check.STATE, () -> h.goOn(1));
        h.define(0, loop);
        Check.gives("LOOP", TOO_FAR, () -> h.run(0, 2, false));
        Check.gives("LOOP", LOOP, () -> h.goOn(1));
    }

    private void far() {
        h.define(1, h.lambda(0, h.apply(h.global(1), x)));
        h.define(0, h.apply(h.global(1), one));
        Check.gives("without an end", TOO_FAR, () -> h.run(0, 1000, false));
        Check.gives("more", TOO_FAR, () -> h.goOn(1000));
        Check.gives("more", TOO_FAR, () -> h.goOn(999));
        Check.gives("steps", 2999, h::steps);
        Check.gives("one less than 3000 may be gone on with", TOO_FAR, () -> h.goOn(1000));
        Check.gives("steps", 3999, h::steps);
        Check.refuses("no more", Check.STATE, () -> h.goOn(1));
        Check.refuses("a wrong argument comes first", Check.ARGUMENT, () -> h.goOn(0));
        Check.gives("anew", TOO_FAR, () -> h.run(0, 1000, false));
        h.goOn(1000);
        h.goOn(1000);
        Check.gives("steps", 3000, h::steps);
        Check.refuses("3000 may not", Check.STATE, () -> h.goOn(1));
    }

    private void coresAsTheyWere() {
        h.define(1, h.lambda(0, h.cons(x, h.lambda(1, h.global(2)))));
        h.define(2, nil);
        h.define(0, h.apply(h.global(1), sum));
        Check.gives("a run", TOO_FAR, () -> h.run(0, 2, false));
        h.define(1, h.lambda(0, two));
        h.define(0, one);
        h.pass(SpinelessHall.SIMPLIFY);
        Check.gives("goes on with the cores as they were", LIST, () -> h.goOn(1000));
        h.define(2, stuckFree());
        Check.gives("print", Check.fold(7, 4, 1, 3, 2), h::print);
        Check.gives("live", 2, h::live);
        Check.gives("a new run has the new ones", NUMBER, () -> h.run(0, 1000, false));
        Check.gives("print", Check.fold(7, 1, 1), h::print);
    }

    private int stuckFree() {
        return h.lambda(0, h.cons(x, x));
    }

    private void live() {
        int pair = h.cons(sum, sum);
        runs("what is bound and used", h.let(0, pair, h.lambda(1, x), false), FUNCTION, 2, 1);
        prints("what is bound and used", 1, 7, 2);
        runs("what is bound and not used", h.let(0, pair, h.lambda(1, y), false), FUNCTION, 2, 1);
        prints("what is bound and not used", 0, 7, 2);
        runs("bound anew within", h.let(0, pair, h.lambda(0, x), false), FUNCTION, 2, 1);
        prints("bound anew within", 0, 7, 2);
        int matched = h.let(0, pair, h.match(x, nil, 26 * 3 + 2, h.lambda(1, x)), false);
        runs("what a value has in it", matched, FUNCTION, 5, 3);
        prints("what a value has in it", 3, 7, 2);
        int tail = h.let(0, pair, h.match(x, nil, 26 + 2, h.lambda(3, h.variable(2))), false);
        runs("a part of it", tail, FUNCTION, 5, 3);
        prints("a part of it", 1, 7, 2);
        int chained = h.let(0, pair, h.let(1, h.cons(x, nil), h.lambda(2, y), false), false);
        runs("what is still to be evaluated", chained, FUNCTION, 3, 2);
        prints("what is still to be evaluated", 2, 7, 2);
        runs("LETREC", h.let(0, h.cons(one, x), h.lambda(1, x), true), FUNCTION, 2, 1);
        prints("LETREC", 1, 7, 2);
    }

    private void liveThroughDefinitions() {
        int pair = h.cons(sum, sum);
        h.define(1, pair);
        h.define(2, h.lambda(0, h.global(1)));
        int seen = h.match(h.global(1), nil, 1, h.global(2));
        runs("a definition's value", seen, FUNCTION, 5, 2);
        prints("a definition's value, through another", 2, 7, 2);
        runs("one that is not evaluated", h.global(2), FUNCTION, 2, 0);
        prints("one that is not evaluated", 0, 7, 2);
        h.define(3, h.global(2));
        runs("through one that is not", h.match(h.global(1), nil, 1, h.lambda(0, h.global(3))), FUNCTION, 4, 2);
        prints("through one that is not", 2, 7, 2);
        runs("none leads there", h.match(h.global(1), nil, 1, h.lambda(0, h.global(6))), FUNCTION, 4, 2);
        prints("none leads there", 0, 7, 2);
        runs("itself", h.cons(h.global(0), nil), LIST, 2, 2);
        Check.gives("itself, live", 2, h::live);
    }

    public static void main(String[] args) {
        new RunsTest().refuses();
        new RunsTest().values();
        new RunsTest().applications();
        new RunsTest().letsAndLists();
        new RunsTest().primitives();
        new RunsTest().stuckAndLoops();
        new RunsTest().twenty();
        new RunsTest().centres();
        new RunsTest().stops();
        new RunsTest().stepByStep();
        new RunsTest().far();
        new RunsTest().coresAsTheyWere();
        new RunsTest().live();
        new RunsTest().liveThroughDefinitions();
        Check.end("RunsTest");
    }
}
