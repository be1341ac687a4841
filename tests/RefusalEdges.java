import java.util.ArrayList;
import java.util.List;

/** The edges of "Exceptions": which one is thrown, and that a call that throws changes nothing. */
final class RefusalEdges {
    private static final int MOST = Integer.MAX_VALUE;
    private static final int LEAST = Integer.MIN_VALUE;

    /** What an object is brought to before a call of it is refused. */
    private interface State {
        SpinelessHall made();
    }

    /** A call that is refused; it is told how many nodes there are. */
    private interface Refused {
        long call(SpinelessHall h, int nodes);
    }

    // ---- states

    private static SpinelessHall fresh() {
        return new SpinelessHall();
    }

    /**
     * Definitions whose cores were changed, two rules, and a run that can be gone on with. Node 0 is the VARIABLE a,
     * and node 6 has a and b in it.
     */
    private static SpinelessHall goneFar() {
        Hall hall = new Hall().is(0, "(\\ a (\\ b (+ a (@ G1 (@ G2 b)))))").is(1, "(\\ a (let x 1 (+ x a)))");
        hall.is(2, "(\\ a (c3 (* a 2)))").is(4, "(let f (\\ x (: x nil)) (: (@ f 1) (@ f 2)))")
                .is(7, "(@ G0 3 (+ 1 2))");
        hall.is(5, "(\\ y (@ G5 (@ G5 y)))").rule(1, 0, 5, 5, 4).rule(2, 1, 5, 5, 1);
        hall.pass(Hall.SIMPLIFY, 5).run(7, 11, Hall.TOO_FAR);
        return hall.hall;
    }

    /** A run that has given a list. */
    private static SpinelessHall listed() {
        SpinelessHall h = goneFar();
        Check.gives("run", Hall.LIST, () -> h.run(4, 1000, true));
        return h;
    }

    /** A run that is STUCK. */
    private static SpinelessHall stuck() {
        Hall hall = new Hall().is(3, "(: (c1 1) (@ 1 1))").is(1, "(let x (+ 1 2) (+ x x))").run(3, 9, Hall.STUCK);
        return hall.hall;
    }

    /** A core that a pass would make too large, between others. */
    private static SpinelessHall large() {
        Hall hall = new Hall().is(2, "(+ 1 2)").is(3, PassEdges.grown(151)).is(4, "(+ 3 4)").is(5, "(c0 (c1 nil))");
        return hall.run(5, 2, Hall.TOO_FAR).hall;
    }

    /** 120 nodes and 10 rules. */
    private static SpinelessHall full() {
        SpinelessHall h = listed();
        int nodes = count(h);
        // That one has made its node, too: the last one here is number 119.
        for (int i = nodes + 1; i < 120; i++) {
            int next = i;
            Check.gives("node", next, h::nil);
        }
        for (int i = 3; i <= 10; i++) {
            int due = i;
            Check.gives("rule", due, () -> h.rule(2, due % 8, due % 8, 0));
        }
        return h;
    }

    /** Nodes of each weight up to 80. */
    private static SpinelessHall heavy() {
        return NodeEdges.weights();
    }

    /** How many nodes there were; makes one more, if it can. */
    private static int count(SpinelessHall h) {
        String made = Check.told(() -> h.number(77));
        return made.equals(Check.STATE) ? 120 : Integer.parseInt(made);
    }

    // ---- everything that an object tells, and everything that is done with it later

    private static void tellDefinitions(SpinelessHall h, List<String> told) {
        for (int i = 0; i < 8; i++) {
            int d = i;
            told.add(Check.told(() -> h.size(d)));
            told.add(Check.told(() -> h.core(d)));
            for (int parameter = 0; parameter < 2; parameter++) {
                int p = parameter;
                told.add(Check.told(() -> Check.bit(h.needs(d, p))));
                told.add(Check.told(() -> Check.bit(h.isAbsent(d, p))));
            }
        }
    }

    private static void tellRun(SpinelessHall h, List<String> told) {
        told.add(Check.told(h::steps));
        told.add(Check.told(h::cellsMade));
        for (int i = 0; i < 6; i++) {
            int centre = i;
            told.add(Check.told(() -> h.entered(centre)));
        }
        told.add(Check.told(h::print));
        told.add(Check.told(h::live));
    }

    private static List<String> tellAll(SpinelessHall h) {
        List<String> told = new ArrayList<>();
        tellDefinitions(h, told);
        tellRun(h, told);
        told.add(Check.told(() -> h.goOn(3)));
        tellRun(h, told);
        told.add(Check.told(() -> h.goOn(1000)));
        tellRun(h, told);
        told.add(Check.told(() -> h.number(5)));
        told.add(Check.told(() -> h.rule(0, 5, 5, 5)));
        for (int pass : new int[] {5, 7, 0, 4, 1}) {
            told.add(Check.told(() -> h.pass(pass)));
        }
        tellDefinitions(h, told);
        for (int i = 0; i < 8; i++) {
            int d = i;
            told.add(Check.told(() -> h.run(d, 1000, true)));
            told.add(Check.told(h::steps));
        }
        tellRun(h, told);
        told.add(Check.told(h::reset));
        for (int i = 0; i < 12; i++) {
            int node = i;
            told.add(Check.told(() -> h.define(6, node)));
        }
        tellDefinitions(h, told);
        return told;
    }

    /** What it throws, and that nothing else has changed: it then answers as another one that was not asked. */
    private static void refuses(String what, String exception, State state, Refused refused) {
        SpinelessHall asked = state.made();
        SpinelessHall other = state.made();
        int nodes = count(state.made());
        Check.refuses(what, exception, () -> refused.call(asked, nodes));
        Check.refuses(what + ", again", exception, () -> refused.call(asked, nodes));
        Check.same(what + " has changed nothing", tellAll(asked), tellAll(other));
    }

    private static void unmade(State state) {
        for (NodeEdges.Maker m : NodeEdges.MAKERS) {
            for (int place = 0; place < m.parts; place++) {
                int at = place;
                String what = "a part that is not there, " + m.heading + ", " + place;
                refuses(what, Check.INDEX, state, (h, nodes) -> m.with(h, at, nodes));
                refuses(what, Check.INDEX, state, (h, nodes) -> m.with(h, at, -1));
                refuses(what, Check.INDEX, state, (h, nodes) -> m.with(h, at, MOST));
            }
        }
        refuses("define", Check.INDEX, state, (h, nodes) -> h.define(0, nodes));
        refuses("define", Check.INDEX, state, (h, nodes) -> h.define(0, -1));
        refuses("define", Check.INDEX, state, (h, nodes) -> h.define(0, LEAST));
    }

    private static void outside(State state) {
        for (int wrong : new int[] {-1, 26, LEAST, MOST}) {
            refuses("name", Check.ARGUMENT, state, (h, nodes) -> h.variable(wrong));
            refuses("name", Check.ARGUMENT, state, (h, nodes) -> h.lambda(wrong, 0));
            refuses("name", Check.ARGUMENT, state, (h, nodes) -> h.let(wrong, 0, 0, false));
            refuses("name", Check.ARGUMENT, state, (h, nodes) -> h.let(wrong, 0, 0, true));
        }
        for (int wrong : new int[] {-1, 8, LEAST, MOST}) {
            refuses("definition", Check.ARGUMENT, state, (h, nodes) -> h.global(wrong));
            refuses("definition", Check.ARGUMENT, state, (h, nodes) -> h.define(wrong, 0));
            refuses("outer", Check.ARGUMENT, state, (h, nodes) -> h.rule(0, wrong, 0, 0));
            refuses("inner", Check.ARGUMENT, state, (h, nodes) -> h.rule(0, 0, wrong, 0));
            refuses("result", Check.ARGUMENT, state, (h, nodes) -> h.rule(0, 0, 0, wrong));
            refuses("pass", Check.ARGUMENT, state, (h, nodes) -> h.pass(wrong));
        }
        for (int wrong : new int[] {-1, 3, LEAST, MOST}) {
            refuses("phase", Check.ARGUMENT, state, (h, nodes) -> h.rule(wrong, 0, 0, 0));
        }
        for (int wrong : new int[] {-1, 5, LEAST, MOST}) {
            refuses("sign", Check.ARGUMENT, state, (h, nodes) -> h.primitive(wrong, 0, 0));
        }
        for (int wrong : new int[] {-1, 6, LEAST, MOST}) {
            refuses("centre", Check.ARGUMENT, state, (h, nodes) -> h.centre(wrong, 0));
            refuses("entered", Check.ARGUMENT, state, (h, nodes) -> h.entered(wrong));
        }
        for (int wrong : new int[] {-1, 0, 27, 675, 676, LEAST, MOST}) {
            refuses("names", Check.ARGUMENT, state, (h, nodes) -> h.match(0, 0, wrong, 0));
        }
    }

    private static void ofDefinitions(State state) {
        for (int wrong : new int[] {-1, 6, 8, LEAST, MOST}) {
            refuses("size", Check.INDEX, state, (h, nodes) -> h.size(wrong));
            refuses("core", Check.INDEX, state, (h, nodes) -> h.core(wrong));
            refuses("parameters", Check.INDEX, state, (h, nodes) -> h.parameters(wrong));
            refuses("needs", Check.INDEX, state, (h, nodes) -> Check.bit(h.needs(wrong, 0)));
            refuses("isAbsent", Check.INDEX, state, (h, nodes) -> Check.bit(h.isAbsent(wrong, 0)));
            refuses("run", Check.INDEX, state, (h, nodes) -> h.run(wrong, 10, false));
            refuses("run", Check.INDEX, state, (h, nodes) -> h.run(wrong, 10, true));
        }
        for (int wrong : new int[] {-1, 2, 4, LEAST, MOST}) {
            refuses("needs", Check.INDEX, state, (h, nodes) -> Check.bit(h.needs(0, wrong)));
            refuses("isAbsent", Check.INDEX, state, (h, nodes) -> Check.bit(h.isAbsent(0, wrong)));
        }
    }

    private static void ofRuns() {
        for (int wrong : new int[] {-1, 0, 1001, LEAST, MOST}) {
            for (State state : new State[] {RefusalEdges::goneFar, RefusalEdges::listed}) {
                refuses("run", Check.ARGUMENT, state, (h, nodes) -> h.run(0, wrong, false));
                refuses("run", Check.ARGUMENT, state, (h, nodes) -> h.run(0, wrong, true));
                refuses("goOn", Check.ARGUMENT, state, (h, nodes) -> h.goOn(wrong));
            }
        }
        for (State state : new State[] {RefusalEdges::fresh, RefusalEdges::listed, RefusalEdges::stuck}) {
            refuses("goOn", Check.STATE, state, (h, nodes) -> h.goOn(1));
            refuses("goOn", Check.STATE, state, (h, nodes) -> h.goOn(1000));
        }
        for (State state : new State[] {RefusalEdges::fresh, RefusalEdges::goneFar, RefusalEdges::stuck}) {
            refuses("print", Check.STATE, state, (h, nodes) -> h.print());
            refuses("live", Check.STATE, state, (h, nodes) -> h.live());
        }
    }

    private static void ofStates() {
        for (NodeEdges.Maker m : NodeEdges.MAKERS) {
            refuses("a node too much, " + m.heading, Check.STATE, RefusalEdges::full,
                    (h, nodes) -> m.make.make(h, 0, 0, 0));
            for (int place = 0; place < m.parts; place++) {
                int at = place;
                refuses("too heavy, " + m.heading, Check.STATE, RefusalEdges::heavy, (h, nodes) -> m.with(h, at, 79));
            }
        }
        refuses("a rule too much", Check.STATE, RefusalEdges::full, (h, nodes) -> h.rule(0, 1, 1, 1));
        refuses("too large", Check.STATE, RefusalEdges::large, (h, nodes) -> h.pass(Hall.SIMPLIFY));
        refuses("a free name", Check.STATE, RefusalEdges::full, (h, nodes) -> h.define(0, 0));
        refuses("a free name", Check.STATE, RefusalEdges::full, (h, nodes) -> h.define(6, 0));
        refuses("two of them", Check.STATE, RefusalEdges::goneFar, (h, nodes) -> h.define(6, 6));
        refuses("two of them", Check.STATE, RefusalEdges::listed, (h, nodes) -> h.define(0, 6));
    }

    private static void changesNothing() {
        Doc.says("Exceptions", "a call that throws changes nothing.");
        for (State state : new State[] {RefusalEdges::goneFar, RefusalEdges::listed}) {
            Doc.says("Exceptions", "IndexOutOfBoundsException: there is no such node, definition or parameter.");
            unmade(state);
            ofDefinitions(state);
            Doc.says("Exceptions", "IllegalArgumentException: another argument is out of its range.");
            outside(state);
        }
        Doc.says("Exceptions", "IllegalStateException: as the method tells.");
        ofRuns();
        ofStates();
    }

    // ---- which one of several

    private static void first(String what, String exception, State state, Refused refused) {
        SpinelessHall h = state.made();
        int nodes = count(state.made());
        Check.refuses(Doc.sentence() + " | " + what, exception, () -> refused.call(h, nodes));
    }

    private static SpinelessHall nils120() {
        return NodeEdges.nils(120);
    }

    private static void namedFirst() {
        Doc.says("Exceptions", "If several apply, the one that is named first in the throws clause is thrown;");
        for (int wrong : new int[] {-1, 120, MOST}) {
            SpinelessHall h = nils120();
            Check.refuses("lambda", Check.INDEX, () -> h.lambda(26, wrong));
            Check.refuses("lambda", Check.INDEX, () -> h.lambda(1, wrong));
            Check.refuses("apply", Check.INDEX, () -> h.apply(0, wrong));
            Check.refuses("apply", Check.INDEX, () -> h.apply(wrong, 0));
            Check.refuses("let", Check.INDEX, () -> h.let(26, wrong, 0, false));
            Check.refuses("let", Check.INDEX, () -> h.let(-1, 0, wrong, true));
            Check.refuses("let", Check.INDEX, () -> h.let(1, 0, wrong, true));
            Check.refuses("primitive", Check.INDEX, () -> h.primitive(5, wrong, 0));
            Check.refuses("primitive", Check.INDEX, () -> h.primitive(-1, 0, wrong));
            Check.refuses("primitive", Check.INDEX, () -> h.primitive(1, wrong, 0));
            Check.refuses("cons", Check.INDEX, () -> h.cons(wrong, 0));
            Check.refuses("cons", Check.INDEX, () -> h.cons(0, wrong));
            Check.refuses("match", Check.INDEX, () -> h.match(wrong, 0, 0, 0));
            Check.refuses("match", Check.INDEX, () -> h.match(0, wrong, 676, 0));
            Check.refuses("match", Check.INDEX, () -> h.match(0, 0, -1, wrong));
            Check.refuses("match", Check.INDEX, () -> h.match(0, 0, 1, wrong));
            Check.refuses("test", Check.INDEX, () -> h.test(wrong, 0, 0));
            Check.refuses("test", Check.INDEX, () -> h.test(0, wrong, 0));
            Check.refuses("test", Check.INDEX, () -> h.test(0, 0, wrong));
            Check.refuses("centre", Check.INDEX, () -> h.centre(6, wrong));
            Check.refuses("centre", Check.INDEX, () -> h.centre(1, wrong));
            Check.refuses("define", Check.INDEX, () -> h.define(8, wrong));
            Check.refuses("define", Check.INDEX, () -> h.define(-1, wrong));
        }
        SpinelessHall full = nils120();
        Check.refuses("variable", Check.ARGUMENT, () -> full.variable(26));
        Check.refuses("global", Check.ARGUMENT, () -> full.global(8));
        Check.refuses("lambda", Check.ARGUMENT, () -> full.lambda(26, 0));
        Check.refuses("let", Check.ARGUMENT, () -> full.let(26, 0, 0, false));
        Check.refuses("letrec", Check.ARGUMENT, () -> full.let(-1, 0, 0, true));
        Check.refuses("primitive", Check.ARGUMENT, () -> full.primitive(5, 0, 0));
        Check.refuses("match", Check.ARGUMENT, () -> full.match(0, 0, 676, 0));
        Check.refuses("match, alike", Check.ARGUMENT, () -> full.match(0, 0, 27, 0));
        Check.refuses("centre", Check.ARGUMENT, () -> full.centre(6, 0));
        first("too heavy", Check.ARGUMENT, RefusalEdges::heavy, (h, nodes) -> h.lambda(26, 79));
        first("too heavy", Check.ARGUMENT, RefusalEdges::heavy, (h, nodes) -> h.let(26, 79, 79, false));
        first("too heavy", Check.ARGUMENT, RefusalEdges::heavy, (h, nodes) -> h.primitive(5, 79, 79));
        first("too heavy", Check.ARGUMENT, RefusalEdges::heavy, (h, nodes) -> h.match(79, 79, 0, 79));
        first("too heavy", Check.ARGUMENT, RefusalEdges::heavy, (h, nodes) -> h.centre(6, 79));
        first("too heavy", Check.INDEX, RefusalEdges::heavy, (h, nodes) -> h.apply(79, nodes));
        first("too heavy", Check.INDEX, RefusalEdges::heavy, (h, nodes) -> h.test(79, nodes, 79));
        first("a free name", Check.ARGUMENT, RefusalEdges::goneFar, (h, nodes) -> h.define(8, 0));
        first("a free name", Check.ARGUMENT, RefusalEdges::goneFar, (h, nodes) -> h.define(-1, 0));
        first("ten rules", Check.ARGUMENT, RefusalEdges::full, (h, nodes) -> h.rule(3, 0, 0, 0));
        first("ten rules", Check.ARGUMENT, RefusalEdges::full, (h, nodes) -> h.rule(0, 8, 0, 0));
        first("ten rules", Check.ARGUMENT, RefusalEdges::full, (h, nodes) -> h.rule(0, 0, -1, 0));
        first("ten rules", Check.ARGUMENT, RefusalEdges::full, (h, nodes) -> h.rule(0, 0, 0, 8));
        first("too large", Check.ARGUMENT, RefusalEdges::large, (h, nodes) -> h.pass(8));
        for (int wrong : new int[] {-1, 6, 8}) {
            first("run", Check.INDEX, RefusalEdges::goneFar, (h, nodes) -> h.run(wrong, 0, false));
            first("run", Check.INDEX, RefusalEdges::goneFar, (h, nodes) -> h.run(wrong, 1001, true));
        }
        for (State state : new State[] {RefusalEdges::fresh, RefusalEdges::listed, RefusalEdges::stuck}) {
            first("goOn", Check.ARGUMENT, state, (h, nodes) -> h.goOn(0));
            first("goOn", Check.ARGUMENT, state, (h, nodes) -> h.goOn(1001));
        }
        Hall far = new Hall().is(0, "(@ G1 1)").is(1, "(\\ x (@ G1 x))").run(0, 1000, Hall.TOO_FAR)
                .goOn(1000, Hall.TOO_FAR)
                .goOn(1000, Hall.TOO_FAR);
        Check.refuses("goOn behind 3000", Check.ARGUMENT, () -> far.hall.goOn(0));
        Check.refuses("goOn behind 3000", Check.STATE, () -> far.hall.goOn(1));
    }

    static void all() {
        changesNothing();
        namedFirst();
    }
}
