/** The edges of the nodes: "Nodes", and promises 1 to 13. */
final class NodeEdges {
    private static final int MOST = Integer.MAX_VALUE;
    private static final int LEAST = Integer.MIN_VALUE;

    /** A call that makes a node of as many of three parts as it takes. */
    interface Make {
        long make(SpinelessHall h, int a, int b, int c);
    }

    /** A call that makes a node with an argument that has a range, and the node 0 as each part. */
    interface MakeWith {
        long make(SpinelessHall h, int argument);
    }

    /** A method that makes nodes. */
    static final class Maker {
        final String heading;
        final int parts;
        final String unmade;
        final Make make;

        Maker(String heading, int parts, Make make) {
            this.heading = heading;
            this.parts = parts;
            this.make = make;
            this.unmade = "Throws IndexOutOfBoundsException as told" + new String[] {"", "", ", of either",
                ", of one of the three"}[parts];
        }

        /** With one of its parts, and the node 0 as the others. */
        long with(SpinelessHall h, int place, int part) {
            return make.make(h, place == 0 ? part : 0, place == 1 ? part : 0, place == 2 ? part : 0);
        }
    }

    static final Maker[] MAKERS = {
        new Maker("Promise 2", 0, (h, a, b, c) -> h.number(7)),
        new Maker("Promise 3", 0, (h, a, b, c) -> h.variable(7)),
        new Maker("Promise 4", 0, (h, a, b, c) -> h.global(7)),
        new Maker("Promise 5", 1, (h, a, b, c) -> h.lambda(7, a)),
        new Maker("Promise 6", 2, (h, a, b, c) -> h.apply(a, b)),
        new Maker("Promise 7", 2, (h, a, b, c) -> h.let(7, a, b, false)),
        new Maker("Promise 7", 2, (h, a, b, c) -> h.let(7, a, b, true)),
        new Maker("Promise 8", 2, (h, a, b, c) -> h.primitive(4, a, b)),
        new Maker("Promise 9", 0, (h, a, b, c) -> h.nil()),
        new Maker("Promise 10", 2, (h, a, b, c) -> h.cons(a, b)),
        new Maker("Promise 11", 3, (h, a, b, c) -> h.match(a, b, 7, c)),
        new Maker("Promise 12", 3, (h, a, b, c) -> h.test(a, b, c)),
        new Maker("Promise 13", 1, (h, a, b, c) -> h.centre(5, a)),
    };

    /** A hall with so many nodes, each of them NIL. */
    static SpinelessHall nils(int count) {
        SpinelessHall h = new SpinelessHall();
        for (int i = 0; i < count; i++) {
            Check.gives(Doc.sentence() + " | nil", i, h::nil);
        }
        return h;
    }

    /** A hall with 80 nodes, of the weights 1 to 80. */
    static SpinelessHall weights() {
        SpinelessHall h = nils(1);
        for (int i = 1; i < 80; i++) {
            int last = i - 1;
            Check.gives(Doc.sentence() + " | centre", i, () -> h.centre(0, last));
        }
        return h;
    }

    private static void empty() {
        Doc.says("Promise 1", "Begins without nodes, definitions and rules.");
        for (Maker m : MAKERS) {
            for (int place = 0; place < m.parts; place++) {
                int at = place;
                SpinelessHall h = new SpinelessHall();
                Check.refuses("a part of " + m.heading + " without nodes", Check.INDEX, () -> m.with(h, at, 0));
            }
        }
        SpinelessHall h = new SpinelessHall();
        Check.refuses("define without nodes", Check.INDEX, () -> h.define(0, 0));
        for (int i = 0; i < 8; i++) {
            int d = i;
            Check.refuses("size without definitions", Check.INDEX, () -> h.size(d));
            Check.refuses("core without definitions", Check.INDEX, () -> h.core(d));
            Check.refuses("parameters without definitions", Check.INDEX, () -> h.parameters(d));
            Check.refuses("run without definitions", Check.INDEX, () -> h.run(d, 1, false));
            Check.refuses("run without definitions", Check.INDEX, () -> h.run(d, 1, true));
        }
        Check.gives("reset without definitions", 0, h::reset);
        Check.gives("the first rule", 1, () -> h.rule(0, 0, 0, 0));
        SpinelessHall other = new SpinelessHall();
        Check.gives("another object has rules of its own", 1, () -> other.rule(0, 0, 0, 0));
        Check.gives("and nodes of its own", 0, other::nil);
        Check.gives("the first one, too", 0, h::nil);
    }

    private static void constants() {
        Doc.says("Exceptions", "The constants: NONE = -1: There is none.");
        Check.same("NONE", SpinelessHall.NONE, -1);
        Doc.says("Exceptions", "NUMBER = 0, FUNCTION = 1, LIST = 2, STUCK = 3, LOOP = 4, TOO_FAR = 5: How runs end.");
        Check.same("NUMBER", SpinelessHall.NUMBER, 0);
        Check.same("FUNCTION", SpinelessHall.FUNCTION, 1);
        Check.same("LIST", SpinelessHall.LIST, 2);
        Check.same("STUCK", SpinelessHall.STUCK, 3);
        Check.same("LOOP", SpinelessHall.LOOP, 4);
        Check.same("TOO_FAR", SpinelessHall.TOO_FAR, 5);
        Doc.says("Exceptions", "SIMPLIFY = 0, FLOAT_IN = 1, FLOAT_OUT = 2, ARITY = 3, STRICT = 4: Passes.");
        Check.same("SIMPLIFY", SpinelessHall.SIMPLIFY, 0);
        Check.same("FLOAT_IN", SpinelessHall.FLOAT_IN, 1);
        Check.same("FLOAT_OUT", SpinelessHall.FLOAT_OUT, 2);
        Check.same("ARITY", SpinelessHall.ARITY, 3);
        Check.same("STRICT", SpinelessHall.STRICT, 4);
    }

    private static void numbered() {
        Doc.says("Exceptions", "each returns its number.");
        SpinelessHall h = new SpinelessHall();
        for (int round = 0; round < 120; round++) {
            Maker m = MAKERS[(round + 8) % MAKERS.length];
            Check.gives("node " + round, round, () -> m.make.make(h, 0, 0, 0));
        }
    }

    private static void atMost120() {
        Doc.says("Nodes", "Nodes are numbered from 0 as they are made, at most 120;");
        for (Maker m : MAKERS) {
            SpinelessHall h = nils(119);
            Check.gives("the last one is taken, " + m.heading, 119, () -> m.make.make(h, 118, 118, 118));
            for (Maker more : MAKERS) {
                Doc.says(more.heading, "Throws IllegalStateException if there are 120 nodes");
                Check.refuses(Doc.sentence(), Check.STATE, () -> more.make.make(h, 0, 0, 0));
            }
            Check.gives("the others are there", 1, () -> h.define(0, 118));
            Check.refuses("no one more is", Check.INDEX, () -> h.define(0, 120));
        }
    }

    private static void ofEarlierOnes() {
        Doc.says("Nodes", "a node is made of earlier ones.");
        for (Maker m : MAKERS) {
            for (int place = 0; place < m.parts; place++) {
                Doc.says(m.heading, m.unmade);
                int at = place;
                SpinelessHall h = nils(5);
                for (int wrong : new int[] {5, 6, 119, 120, MOST, -1, LEAST}) {
                    Check.refuses(Doc.sentence() + " | " + wrong, Check.INDEX, () -> m.with(h, at, wrong));
                }
                Check.gives(Doc.sentence() + " | the last one", 5, () -> m.with(h, at, 4));
                Check.gives(Doc.sentence() + " | the new one", 6, () -> m.with(h, at, 5));
                Check.gives(Doc.sentence() + " | the first one", 7, () -> m.with(h, at, 0));
            }
        }
    }

    private static void notTooHeavy() {
        Doc.says("Nodes", "The weight of a node is 1 more than the weights of its parts together, at most 80.");
        SpinelessHall h = weights();
        int node = 80;
        for (Maker m : MAKERS) {
            for (int place = 0; place < m.parts; place++) {
                Doc.says(m.heading, "or its weight would be above 80");
                int at = place;
                int heaviest = 79 - m.parts;
                for (int wrong = heaviest + 1; wrong < 80; wrong++) {
                    int part = wrong;
                    Check.refuses(Doc.sentence() + " | " + part, Check.STATE, () -> m.with(h, at, part));
                }
                Check.gives(Doc.sentence() + " | 80", node, () -> m.with(h, at, heaviest));
                node++;
            }
        }
        Doc.says("Nodes", "The weight of a node is 1 more than the weights of its parts together, at most 80.");
        int last = node;
        Check.refuses("three of 80", Check.STATE, () -> h.test(79, 79, 79));
        Check.refuses("three of 80", Check.STATE, () -> h.match(79, 79, 1, 79));
        Check.refuses("two of 40", Check.STATE, () -> h.cons(39, 39));
        Check.gives("of 40 and of 39", last, () -> h.cons(39, 38));
        Check.gives("26, 26 and 27 together, and 1", last + 1, () -> h.test(25, 25, 26));
        Check.refuses("26, 27 and 27 together, and 1", Check.STATE, () -> h.test(25, 26, 26));
        Check.gives("a part that stands in it twice weighs twice", 79, () -> h.define(0, h.apply(38, 38)));
    }

    private static void leavesWeigh1() {
        for (Maker m : MAKERS) {
            Doc.says("Nodes", "The weight of a node is 1 more than the weights of its parts together");
            SpinelessHall h = new SpinelessHall();
            if (m.parts > 0) {
                continue;
            }
            Check.gives("a leaf, " + m.heading, 0, () -> m.make.make(h, 0, 0, 0));
            for (int i = 1; i < 80; i++) {
                int last = i - 1;
                Check.gives("on a leaf, " + m.heading, i, () -> h.lambda(7, last));
            }
            Check.refuses("81, " + m.heading, Check.STATE, () -> h.lambda(7, 79));
            Check.gives("80, " + m.heading, 80, () -> h.define(0, 79));
        }
    }

    /** The first and the last argument that are taken; those next to them, and the farthest, are refused. */
    private static void range(String heading, String words, int bound, MakeWith make) {
        String name = words.substring(0, words.indexOf(':'));
        for (int right : new int[] {0, bound - 1}) {
            Doc.says(heading, words);
            SpinelessHall h = nils(1);
            Check.gives(Doc.sentence() + " | " + right, 1, () -> make.make(h, right));
        }
        Doc.says(heading, "Throws IllegalArgumentException if " + name + " is out of range");
        SpinelessHall h = nils(1);
        for (int wrong : new int[] {-1, bound, LEAST, MOST, -bound, 2 * bound, 256, 65536}) {
            Check.refuses(Doc.sentence() + " | " + wrong, Check.ARGUMENT, () -> make.make(h, wrong));
        }
        for (int i = 0; i < bound; i++) {
            int right = i;
            Check.gives(Doc.sentence() + " | " + right, i + 1, () -> make.make(h, right));
        }
    }

    private static void ranges() {
        Doc.says("Nodes", "Variables have names, 0 to 25.");
        range("Promise 3", "name: 0 to 25", 26, (h, name) -> h.variable(name));
        range("Promise 5", "name: 0 to 25", 26, (h, name) -> h.lambda(name, 0));
        range("Promise 7", "name: 0 to 25", 26, (h, name) -> h.let(name, 0, 0, false));
        range("Promise 7", "name: 0 to 25", 26, (h, name) -> h.let(name, 0, 0, true));
        Doc.says("Nodes", "GLOBAL: a definition, 0 to 7.");
        range("Promise 4", "definition: 0 to 7", 8, (h, definition) -> h.global(definition));
        Doc.says("Nodes", "PRIMITIVE of a sign, 0 adds, 1 takes away, 2 multiplies, 3 is less, 4 is the same");
        range("Promise 8", "sign: 0 to 4", 5, (h, sign) -> h.primitive(sign, 0, 0));
        Doc.says("Nodes", "CENTRE of a cost centre, 0 to 5, and a node.");
        range("Promise 13", "centre: 0 to 5", 6, (h, centre) -> h.centre(centre, 0));
    }

    private static void namesOfMatch() {
        Doc.says("Promise 11", "names: 26 times the name for the head, and the name for the tail, together;");
        SpinelessHall h = nils(1);
        int[] edges = {1, 25, 26, 26 + 25, 25 * 26, 25 * 26 + 24};
        for (int i = 0; i < edges.length; i++) {
            int names = edges[i];
            Check.gives(Doc.sentence() + " | " + names, i + 1, () -> h.match(0, 0, names, 0));
        }
        Doc.says("Promise 11", "two unlike ones");
        for (int name = 0; name < 26; name++) {
            int alike = 27 * name;
            Check.refuses(Doc.sentence() + " | " + alike, Check.ARGUMENT, () -> h.match(0, 0, alike, 0));
        }
        Doc.says("Promise 11", "Throws IllegalArgumentException if names is out of range");
        for (int wrong : new int[] {-1, -2, -26, -27, LEAST, 676, 677, 702, 1000, MOST}) {
            Check.refuses(Doc.sentence() + " | " + wrong, Check.ARGUMENT, () -> h.match(0, 0, wrong, 0));
        }
        Check.gives("the next node", edges.length + 1, h::nil);
    }

    private static void unlikeNames() {
        Doc.says("Nodes", "MATCH of a list, what is to be done for NIL, and two unlike names, for the head and the"
                + " tail, bound in what is to be done for CONS, and this.");
        for (int head = 0; head < 26; head += 5) {
            for (int tail = 0; tail < 26; tail++) {
                if (head != tail) {
                    SpinelessHall h = nils(1);
                    int names = 26 * head + tail;
                    int pair = (int) cons(h, head, tail);
                    Check.gives("head " + head + ", tail " + tail, 6, () -> h.define(0, h.match(0, 0, names, pair)));
                    long due = Check.fold(9, 12, 10, 10, 11, 2, 0, 2, 1);
                    Check.gives("head " + head + ", tail " + tail, due, () -> h.core(0));
                }
            }
        }
        Doc.says("Promise 11", "ifNil: what is to be done for NIL");
        new Hall().is(0, "(match nil 5 a b 6)").run(0, 9, Hall.NUMBER).prints("5");
        new Hall().is(0, "(let a 1 (match nil a a b 6))").run(0, 9, Hall.NUMBER).prints("1");
        new Hall().isNot(0, "(match nil a a b 6)", Check.STATE).isNot(0, "(match nil b a b 6)", Check.STATE);
        new Hall().isNot(0, "(match a 5 a b 6)", Check.STATE).isNot(0, "(match b 5 a b 6)", Check.STATE);
        Doc.says("Promise 11", "ifCons: what is to be done for CONS");
        new Hall().is(0, "(match (: 7 8) 5 a b a)").run(0, 9, Hall.NUMBER).prints("7");
        new Hall().is(0, "(match (: 7 8) 5 b a a)").run(0, 9, Hall.NUMBER).prints("8");
    }

    private static long cons(SpinelessHall h, int head, int tail) {
        return h.cons(h.variable(head), h.variable(tail));
    }

    /** Each kind, told as it stands in a core. */
    private static void kinds() {
        Doc.says("Promise 2", "Makes a NUMBER.");
        Doc.says("Nodes", "NUMBER: a number.");
        for (long n : new long[] {0, 1, -1, Long.MAX_VALUE, Long.MIN_VALUE, 1L << 32}) {
            new Hall().is(7, Long.toString(n)).run(7, 1, Hall.NUMBER).prints(Long.toString(n));
        }
        Doc.says("Promise 3", "Makes a VARIABLE.");
        Doc.says("Nodes", "VARIABLE of a name.");
        new Hall().is(0, "(\\ a (\\ z (: a z)))").is(1, "(\\ z (\\ a (: a z)))");
        Doc.says("Promise 4", "Makes a GLOBAL.");
        new Hall().is(0, "(: G0 G7)");
        Doc.says("Promise 5", "Makes a LAMBDA.");
        Doc.says("Nodes", "LAMBDA of a name and a body: a function.");
        new Hall().is(0, "(\\ a a)").is(1, "(\\ z z)").run(1, 1, Hall.FUNCTION);
        Doc.says("Promise 6", "Makes an APPLY.");
        Doc.says("Nodes", "APPLY of a function and an argument.");
        new Hall().is(0, "(@ (\\ a a) 1)").run(0, 9, Hall.NUMBER).is(0, "(@ 1 (\\ a a))").run(0, 9, Hall.STUCK);
        Doc.says("Promise 7", "Makes a LET or a LETREC.");
        new Hall().is(0, "(let a 1 a)").is(1, "(rec a 1 a)");
        Doc.says("Nodes", "LET of a name, a value and a body: the name is bound in the body.");
        new Hall().is(0, "(let z 1 z)").isNot(0, "(let z z 1)", Check.STATE).isNot(0, "(let a 1 b)", Check.STATE);
        Doc.says("Nodes", "LETREC: likewise, it is bound in the value, too.");
        new Hall().is(0, "(rec z z 1)").is(0, "(rec z 1 z)").isNot(0, "(rec a b 1)", Check.STATE);
        Doc.says("Promise 8", "Makes a PRIMITIVE.");
        new Hall().is(0, "(+ 1 2)").is(1, "(- 1 2)").is(2, "(* 1 2)").is(3, "(< 1 2)").is(4, "(= 1 2)")
                .is(5, "(= 2 1)");
        Doc.says("Promise 9", "Makes NIL.");
        Doc.says("Promise 10", "Makes a CONS.");
        Doc.says("Nodes", "NIL, and CONS of a head and a tail.");
        new Hall().is(0, "nil").is(1, "(: 1 2)").is(2, "(: 2 1)");
        Doc.says("Promise 11", "Makes a MATCH.");
        new Hall().is(0, "(match 1 2 a z (: a z))").is(1, "(match 1 2 z a (: a z))");
        Doc.says("Promise 12", "Makes a TEST.");
        new Hall().is(0, "(test 1 2 3)").is(1, "(test 3 2 1)");
        Doc.says("Nodes", "TEST of a number, what is to be done if it is not 0, and what otherwise.");
        new Hall().is(0, "(test 1 2 3)").run(0, 9, Hall.NUMBER).prints("2");
        new Hall().is(0, "(test 0 2 3)").run(0, 9, Hall.NUMBER).prints("3");
        Doc.says("Promise 13", "Makes a CENTRE.");
        new Hall().is(0, "(c0 1)").is(5, "(c5 1)").run(5, 9, Hall.NUMBER).entered(5, 1).entered(0, 0);
    }

    private static void names() {
        Doc.says("Nodes", "A name stands for what it is bound to innermost;");
        new Hall().is(0, "(let a 1 (let a 2 a))").run(0, 9, Hall.NUMBER).prints("2");
        new Hall().is(0, "(let a 1 (let a (+ a 1) a))").run(0, 9, Hall.NUMBER).prints("2");
        new Hall().is(0, "(let a 1 (rec a (+ a 1) a))").run(0, 9, Hall.LOOP);
        new Hall().is(0, "(let a 1 (+ (let a 2 a) a))").run(0, 9, Hall.NUMBER).prints("3");
        new Hall().is(0, "(let a 1 (@ (\\ a a) 2))").run(0, 9, Hall.NUMBER).prints("2");
        new Hall().is(0, "(let a 1 (match (: 2 3) a a b a))").run(0, 9, Hall.NUMBER).prints("2");
        new Hall().is(0, "(let a 1 (match (: 2 3) a b a a))").run(0, 9, Hall.NUMBER).prints("3");
        new Hall().is(0, "(let a 1 (match nil a a b a))").run(0, 9, Hall.NUMBER).prints("1");
        new Hall().is(0, "(let a (: 1 2) (match a 3 a b a))").run(0, 9, Hall.NUMBER).prints("1");
        new Hall().is(0, "(\\ a (\\ a (\\ a a)))").absent(0, "110");
        Doc.says("Nodes", "A definition is a node in which all names are bound.");
        new Hall().isNot(0, "a", Check.STATE).isNot(0, "(\\ a b)", Check.STATE).isNot(0, "(: (\\ a a) a)", Check.STATE)
                .isNot(0, "(@ (let a 1 a) a)", Check.STATE).isNot(0, "(test 1 (\\ a a) (c0 a))", Check.STATE)
                .isNot(0, "(\\ b (\\ c (+ b (- c a))))", Check.STATE).is(0, "(\\ b (\\ a (+ b (- a a))))");
    }

    static void all() {
        empty();
        constants();
        numbered();
        atMost120();
        ofEarlierOnes();
        notTooHeavy();
        leavesWeigh1();
        ranges();
        namesOfMatch();
        unlikeNames();
        kinds();
        names();
    }
}
