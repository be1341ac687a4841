/** The edges of definitions and rules: promises 14, 15, and 17 to 22. */
final class DefinitionEdges {
    private static final int MOST = Integer.MAX_VALUE;
    private static final int LEAST = Integer.MIN_VALUE;

    /** A call that takes a definition. */
    interface Ask {
        long ask(SpinelessHall h, int definition);
    }

    private static String repeat(String before, int times, String inside, String behind) {
        return before.repeat(times) + inside + behind.repeat(times);
    }

    private static void define() {
        Doc.says("Promise 14", "definition: 0 to 7");
        new Hall().is(0, "1").is(7, "2").core(0, "1");
        Doc.says("Promise 14", "Throws IllegalArgumentException if definition is out of range");
        SpinelessHall h = NodeEdges.nils(2);
        for (int wrong : new int[] {-1, 8, LEAST, MOST, 256, -8}) {
            Check.refuses(Doc.sentence() + " | " + wrong, Check.ARGUMENT, () -> h.define(wrong, 0));
        }
        Doc.says("Promise 14", "Throws IndexOutOfBoundsException as told, of the node");
        for (int wrong : new int[] {-1, 2, 120, LEAST, MOST}) {
            Check.refuses(Doc.sentence() + " | " + wrong, Check.INDEX, () -> h.define(0, wrong));
        }
        Check.gives("nothing is defined", 0, h::reset);
        Check.gives("the first node", 1, () -> h.define(7, 0));
        Check.gives("the last one", 1, () -> h.define(0, 1));
        Check.gives("both are defined", 2, h::reset);
        Doc.says("Promise 14", "Makes a node a definition, in place of what it is;");
        new Hall().is(3, "(: 1 2)").is(3, "5").reset(1).core(3, "5").run(3, 1, Hall.NUMBER).runTold(3, 1, Hall.NUMBER)
                .prints("5");
        Doc.says("Promise 14", "its core now is that which is told.");
        new Hall().is(0, "(+ 1 2)").pass(Hall.SIMPLIFY, 1).core(0, "3").is(0, "(+ 1 2)").reset(1).core(0, "(+ 1 2)");
        Doc.says("Nodes", "It has a core: told, as it was defined, and now, as the passes have made it.");
        new Hall().is(0, "(+ 1 2)").pass(Hall.SIMPLIFY, 1).core(0, "3").run(0, 9, Hall.NUMBER).steps(1)
                .runTold(0, 9, Hall.NUMBER).steps(3).prints("3").reset(1).core(0, "(+ 1 2)");
        Doc.says("Promise 14", "Returns the size of its core.");
        new Hall().is(0, "1").is(0, repeat("(c0 ", 79, "1", ")")).is(7, repeat("(: ", 39, "1", " 2)"));
    }

    private static void unbound() {
        Doc.says("Promise 14", "Throws IllegalStateException if some name in the node is not bound");
        String[] free = {"z", "(\\ a z)", "(c0 z)", "(@ z 1)", "(@ 1 z)", "(let a z 1)", "(let a 1 z)", "(rec a z 1)",
            "(rec a 1 z)", "(+ z 1)", "(+ 1 z)", "(: z 1)", "(: 1 z)", "(match z 1 a b 2)", "(match 1 z a b 2)",
            "(match 1 2 a b z)", "(test z 1 2)", "(test 1 z 2)", "(test 1 2 z)", "(let z z 1)", "(match z 1 z b 2)",
            "(match z 1 b z 2)", "(match 1 z z b 2)", "(match 1 z b z 2)", "(: (\\ z z) z)", "(: z (\\ z z))",
            "(: (let z 1 z) z)", "(: (rec z z z) z)", "(: (match 1 2 z a z) z)", "(: (match 1 2 a z z) z)"};
        for (String text : free) {
            Hall hall = new Hall().is(0, "5");
            hall.isNot(0, text, Check.STATE).isNot(1, text, Check.STATE).core(0, "5").reset(1);
            hall.is(0, "(\\ z " + text + ")");
        }
        new Hall().isNot(0, "(+ y (: z (@ y z)))", Check.STATE).is(0, "(+ 1 2)")
                .isNot(0, "(\\ x (: y (: z x)))", Check.STATE)
                .is(1, "(\\ y (\\ z (: y z)))").core(0, "(+ 1 2)");
        new Hall().isNot(0, repeat("(c0 ", 79, "z", ")"), Check.STATE);
        new Hall().is(0, repeat("(\\ z ", 79, "z", ")"));
        Hall full = new Hall();
        for (int i = 0; i < 20; i++) {
            full.is(i % 8, repeat("(\\ y (\\ z ", 39, "z", "))"));
        }
        full.is(0, "(\\ y (\\ z (: y z)))").isNot(0, "(\\ y z)", Check.STATE);
    }

    private static void rules() {
        SpinelessHall h = new SpinelessHall();
        Doc.says("Promise 15", "Throws IllegalArgumentException if phase, outer, inner or result is out of range");
        for (int wrong : new int[] {-1, 8, LEAST, MOST}) {
            Check.refuses(Doc.sentence() + " | phase", Check.ARGUMENT, () -> h.rule(wrong, 0, 0, 0));
            Check.refuses(Doc.sentence() + " | outer", Check.ARGUMENT, () -> h.rule(0, wrong, 0, 0));
            Check.refuses(Doc.sentence() + " | inner", Check.ARGUMENT, () -> h.rule(0, 0, wrong, 0));
            Check.refuses(Doc.sentence() + " | result", Check.ARGUMENT, () -> h.rule(0, 0, 0, wrong));
        }
        Check.refuses(Doc.sentence() + " | phase", Check.ARGUMENT, () -> h.rule(3, 0, 0, 0));
        Doc.says("Promise 15", "Adds a rule.");
        Doc.says("Promise 15", "Returns how many rules there are then.");
        Doc.says("Promise 15", "phase: 0 to 2");
        Check.gives(Doc.sentence(), 1, () -> h.rule(0, 1, 1, 1));
        Check.gives(Doc.sentence(), 2, () -> h.rule(2, 1, 1, 1));
        Doc.says("Promise 15", "outer: 0 to 7");
        Check.gives(Doc.sentence(), 3, () -> h.rule(0, 0, 1, 1));
        Check.gives(Doc.sentence(), 4, () -> h.rule(0, 7, 1, 1));
        Doc.says("Promise 15", "inner: 0 to 7");
        Check.gives(Doc.sentence(), 5, () -> h.rule(0, 1, 0, 1));
        Check.gives(Doc.sentence(), 6, () -> h.rule(0, 1, 7, 1));
        Doc.says("Promise 15", "result: 0 to 7");
        Check.gives(Doc.sentence(), 7, () -> h.rule(0, 1, 1, 0));
        Check.gives(Doc.sentence(), 8, () -> h.rule(0, 1, 1, 7));
        Doc.says("Promise 15", "Throws IllegalStateException if there are 10");
        Check.gives("one that is there already counts again", 9, () -> h.rule(0, 1, 1, 7));
        Check.gives("the last one", 10, () -> h.rule(1, 0, 0, 0));
        for (int i = 0; i < 3; i++) {
            int phase = i;
            Check.refuses(Doc.sentence(), Check.STATE, () -> h.rule(phase, 1, 1, 1));
        }
        Check.refuses("a wrong one", Check.ARGUMENT, () -> h.rule(3, 1, 1, 1));
    }

    private static void fullOfRules() {
        Doc.says("Promise 15", "Throws IllegalStateException if there are 10");
        Hall hall = new Hall();
        for (int i = 0; i < 9; i++) {
            hall.rule(i + 1, i % 3, i % 8, 7 - i % 8, 0);
        }
        hall.rule(10, 2, 5, 6, 3);
        Check.refuses(Doc.sentence(), Check.STATE, () -> hall.hall.rule(2, 4, 4, 4));
        hall.is(0, "(@ G5 (@ G6 1))").pass(Hall.RULES, 0).pass(Hall.RULES + 1, 0).pass(Hall.RULES + 2, 1)
                .core(0, "(@ G3 1)");
        hall.is(0, "(@ G4 (@ G4 1))").pass(Hall.RULES + 2, 0).core(0, "(@ G4 (@ G4 1))");
    }

    private static void reset() {
        Doc.says("Promise 17", "Returns how many definitions there are.");
        Hall hall = new Hall().reset(0);
        for (int i = 0; i < 8; i++) {
            hall.is(7 - i, "(+ 1 2)").reset(i + 1);
        }
        hall.is(0, "(+ 1 3)").is(7, "(+ 1 4)").reset(8).isNot(0, "a", Check.STATE).reset(8);
        Doc.says("Promise 17", "Makes the cores of all definitions now those that were told.");
        hall.pass(Hall.SIMPLIFY, 8).core(0, "4").core(3, "3").core(7, "5").reset(8).reset(8);
        hall.core(0, "(+ 1 3)").core(7, "(+ 1 4)");
        for (int i = 1; i < 7; i++) {
            hall.core(i, "(+ 1 2)");
        }
        new Hall().is(0, "(let x 1 (+ x x))").pass(Hall.STRICT, 1).core(0, "(force x 1 (+ x x))").reset(1)
                .core(0, "(let x 1 (+ x x))");
        Hall full = new Hall().is(0, PassEdges.grown(150)).pass(Hall.SIMPLIFY, 1).reset(1);
        full.core(0, PassEdges.grown(150)).pass(Hall.SIMPLIFY, 1).reset(1).core(0, PassEdges.grown(150));
    }

    private static void undefined(String heading, Ask asked) {
        Doc.says(heading, "Throws IndexOutOfBoundsException if it is not defined");
        SpinelessHall h = NodeEdges.nils(1);
        Check.gives("a function", 1, () -> h.lambda(0, 0));
        for (int wrong : new int[] {-1, 0, 1, 7, 8, LEAST, MOST}) {
            Check.refuses(Doc.sentence() + " | " + wrong, Check.INDEX, () -> asked.ask(h, wrong));
        }
        h.define(0, 1);
        h.define(7, 1);
        for (int wrong : new int[] {-1, 1, 6, 8, LEAST, MOST, 256, -8}) {
            Check.refuses(Doc.sentence() + " | " + wrong, Check.INDEX, () -> asked.ask(h, wrong));
        }
        Check.same(Doc.sentence() + " | 0", Check.told(() -> asked.ask(h, 0)).startsWith("throws"), false);
        Check.same(Doc.sentence() + " | 7", Check.told(() -> asked.ask(h, 7)).startsWith("throws"), false);
    }

    private static void undefined() {
        undefined("Promise 18", (h, d) -> h.size(d));
        undefined("Promise 19", (h, d) -> h.core(d));
        undefined("Promise 20", (h, d) -> h.parameters(d));
        undefined("Promise 21", (h, d) -> Check.bit(h.needs(d, 0)));
        undefined("Promise 22", (h, d) -> Check.bit(h.isAbsent(d, 0)));
        undefined("Promise 23", (h, d) -> h.run(d, 1, false));
        undefined("Promise 23", (h, d) -> h.run(d, 1, true));
    }

    private static void sizes() {
        Doc.says("Promise 18", "Returns the size of the core of a definition now.");
        new Hall().is(0, "(+ 1 2)").pass(Hall.SIMPLIFY, 1).core(0, "3").reset(1).core(0, "(+ 1 2)");
        new Hall().is(0, PassEdges.grown(150)).pass(Hall.SIMPLIFY, 1).core(0, PassEdges.grownNow(150));
        Doc.says("Passes", "The size of a core is how many nodes it has.");
        String[] texts = {"1", "nil", "G3", "(\\ a a)", "(@ 1 2)", "(let a 1 a)", "(rec a 1 a)", "(+ 1 2)", "(: 1 2)",
            "(match 1 2 a b 3)", "(test 1 2 3)", "(c0 1)"};
        int[] due = {1, 1, 1, 2, 3, 3, 3, 3, 3, 4, 4, 2};
        for (int i = 0; i < texts.length; i++) {
            SpinelessHall h = new Hall().is(0, texts[i]).hall;
            Check.gives(Doc.sentence() + " | " + texts[i], due[i], () -> h.size(0));
        }
    }

    /** The print of a core, written out number by number: independent of how Expr prints. */
    private static void printsCore(String text, long... numbers) {
        SpinelessHall h = new Hall().is(0, text).hall;
        Check.gives(Doc.sentence() + " | " + text, Check.fold(numbers), () -> h.core(0));
    }

    private static void cores() {
        Doc.says("Promise 19", "each of these makes it 31 times p and a number, together, in order: NUMBER 1 and it;");
        printsCore("0", 9, 1, 0);
        printsCore("-1", 9, 1, -1);
        Doc.says("Promise 19", "a long p, told with overflow, at first 9;");
        printsCore(Long.toString(Long.MAX_VALUE), 9, 1, Long.MAX_VALUE);
        printsCore(Long.toString(Long.MIN_VALUE), 9, 1, Long.MIN_VALUE);
        printsCore("(: 9223372036854775807 1)", 9, 11, 1, Long.MAX_VALUE, 1, 1);
        printsCore("(: 1 (: 2 (: 3 (: 4 (: 5 6)))))", 9, 11, 1, 1, 11, 1, 2, 11, 1, 3, 11, 1, 4, 11, 1, 5, 1, 6);
        Doc.says("Promise 19", "VARIABLE 2 and how many variables were bound in this order ahead of its own;");
        printsCore("(\\ z z)", 9, 4, 2, 0);
        printsCore("(\\ a (\\ z (: z a)))", 9, 4, 4, 11, 2, 1, 2, 0);
        printsCore("(\\ a (: (\\ b b) (\\ b (: a b))))", 9, 4, 11, 4, 2, 1, 4, 11, 2, 0, 2, 2);
        Doc.says("Promise 19", "GLOBAL 3 and its number;");
        printsCore("G0", 9, 3, 0);
        printsCore("G7", 9, 3, 7);
        Doc.says("Promise 19", "LAMBDA 4, its variable being bound then, and its body;");
        printsCore("(\\ a (\\ a a))", 9, 4, 4, 2, 1);
        Doc.says("Promise 19", "APPLY 5 and both;");
        printsCore("(@ 1 2)", 9, 5, 1, 1, 1, 2);
        Doc.says("Promise 19", "LET 6, its value, its variable being bound then, and its body;");
        printsCore("(let a (\\ b b) (\\ c (: a c)))", 9, 6, 4, 2, 0, 4, 11, 2, 1, 2, 2);
        printsCore("(let a (let b 1 b) a)", 9, 6, 6, 1, 1, 2, 0, 2, 1);
        Doc.says("Promise 19", "LETREC 7, its variable being bound then, and both;");
        printsCore("(rec a (\\ b (: a b)) (\\ c (: a c)))", 9, 7, 4, 11, 2, 0, 2, 1, 4, 11, 2, 0, 2, 2);
        Doc.says("Promise 19", "FORCE 8, as LET;");
        SpinelessHall h = new Hall().is(0, "(let a (c0 (@ (\\ b b) 1)) (+ a (@ (\\ c c) a)))").pass(Hall.STRICT, 1)
                .hall;
        Check.gives(Doc.sentence(), Check.fold(9, 8, 14, 0, 5, 4, 2, 0, 1, 1, 9, 0, 2, 1, 5, 4, 2, 2, 2, 1),
                () -> h.core(0));
        Doc.says("Promise 19", "PRIMITIVE 9, its sign, and both;");
        printsCore("(+ 5 6)", 9, 9, 0, 1, 5, 1, 6);
        printsCore("(= 6 5)", 9, 9, 4, 1, 6, 1, 5);
        Doc.says("Promise 19", "NIL 10;");
        printsCore("nil", 9, 10);
        Doc.says("Promise 19", "CONS 11 and both;");
        printsCore("(: 5 nil)", 9, 11, 1, 5, 10);
        Doc.says("Promise 19", "MATCH 12, what is matched, what is to be done for NIL, both variables being bound then,"
                + " and what is to be done for CONS;");
        printsCore("(match (\\ a a) (\\ b b) c d (\\ e (: c (: d e))))",
                9, 12, 4, 2, 0, 4, 2, 1, 4, 11, 2, 2, 11, 2, 3, 2, 4);
        printsCore("(\\ a (match a a b a (: b a)))", 9, 4, 12, 2, 0, 2, 0, 11, 2, 1, 2, 2);
        Doc.says("Promise 19", "TEST 13 and its three;");
        printsCore("(test 5 6 7)", 9, 13, 1, 5, 1, 6, 1, 7);
        Doc.says("Promise 19", "CENTRE 14, its number, and its node.");
        printsCore("(c0 5)", 9, 14, 0, 1, 5);
        printsCore("(c5 5)", 9, 14, 5, 1, 5);
        Doc.says("Promise 19", "Returns the print of the core of a definition now");
        new Hall().is(0, "(+ 1 2)").is(1, "(+ 1 2)").pass(Hall.SIMPLIFY, 2).is(1, "(+ 1 2)").core(0, "3");
        new Hall().is(0, repeat("(\\ a ", 79, "a", ")"));
        new Hall().is(0, repeat("(rec b b ", 39, "1", ")"));
    }

    private static void parameters() {
        Doc.says("Promise 20", "Returns how many parameters a definition has now.");
        new Hall().is(0, "(let x 1 (\\ a (: a x)))").needs(0, "").pass(Hall.ARITY, 1).needs(0, "0").reset(1)
                .needs(0, "").is(0, "(\\ a (\\ b (let x (: 1 1) (\\ c x))))").needs(0, "00").pass(Hall.FLOAT_OUT, 2)
                .core(0, "(let x (: 1 1) (\\ a (\\ b (\\ c x))))").needs(0, "");
        Doc.says("Needs", "The parameters of a definition are the names of the LAMBDAs that it begins with, one in the"
                + " other, at most 4 of them;");
        String[] due = {"", "1", "10", "100", "1000", "0000", "0000"};
        for (int count = 0; count < due.length; count++) {
            String text = count == 0 ? "1" : "(\\ a " + repeat("(\\ b ", count - 1, "a", ")") + ")";
            new Hall().is(3, text).needs(3, due[count]);
        }
        new Hall().is(0, "(c0 (\\ a a))").needs(0, "").is(0, "(: (\\ a a) (\\ b b))").needs(0, "");
        new Hall().is(0, "(\\ a (c0 (\\ b a)))").needs(0, "0").is(0, "(rec f (\\ a a) (\\ b b))").needs(0, "");
        Doc.says("Promise 21", "parameter: 0 to the number of its parameters less 1");
        Doc.says("Promise 22", "parameter: 0 to the number of its parameters less 1");
        for (int count = 0; count < 7; count++) {
            SpinelessHall h = new Hall().is(3, repeat("(\\ a ", count, "1", ")")).hall;
            int bound = Math.min(count, 4);
            for (int i = 0; i < bound; i++) {
                int right = i;
                Check.gives(Doc.sentence() + " | " + i, 0, () -> Check.bit(h.needs(3, right)));
                Check.gives(Doc.sentence() + " | " + i, 1, () -> Check.bit(h.isAbsent(3, right)));
            }
            for (int wrong : new int[] {-1, bound, bound + 1, 4, 5, LEAST, MOST, -4, 32, 64}) {
                Doc.says("Promise 21", "or has no such parameter");
                Check.refuses(Doc.sentence() + " | " + wrong, Check.INDEX, () -> Check.bit(h.needs(3, wrong)));
                Doc.says("Promise 22", "or has no such parameter");
                Check.refuses(Doc.sentence() + " | " + wrong, Check.INDEX, () -> Check.bit(h.isAbsent(3, wrong)));
            }
        }
    }

    private static void absent() {
        Doc.says("Promise 22", "Returns whether a parameter of a definition is absent now.");
        new Hall().is(0, "(\\ a (\\ b (test 1 b a)))").absent(0, "00").pass(Hall.SIMPLIFY, 1).absent(0, "10")
                .reset(1).absent(0, "00");
        Doc.says("Needs", "A parameter is absent if it does not occur in what is in the LAMBDAs.");
        new Hall().is(0, "(\\ a 1)").absent(0, "1").is(0, "(\\ a a)").absent(0, "0");
        new Hall().is(0, "(\\ a (\\ a a))").absent(0, "10").is(0, "(\\ a (let a 1 a))").absent(0, "1");
        new Hall().is(0, "(\\ a (let a a 1))").absent(0, "0").is(0, "(\\ a (rec a a 1))").absent(0, "1");
        new Hall().is(0, "(\\ a (: (\\ a a) 1))").absent(0, "1").is(0, "(\\ a (: (\\ a a) a))").absent(0, "0");
        new Hall().is(0, "(\\ a (match a a a b a))").absent(0, "0").is(0, "(\\ a (match 1 2 a b a))").absent(0, "1");
        new Hall().is(0, "(\\ a (\\ b (\\ c (\\ d d))))").absent(0, "1110");
        new Hall().is(0, "(\\ a (\\ b (\\ c (\\ d (\\ e d)))))").absent(0, "1110");
        new Hall().is(0, "(\\ a (\\ b (\\ c (\\ d (\\ a a)))))").absent(0, "1111");
        new Hall().is(0, "(\\ a (\\ b (\\ c (\\ d (\\ e a)))))").absent(0, "0111").needs(0, "0000");
        new Hall().is(0, "(\\ a (\\ b G0))").absent(0, "11").is(0, "(\\ a (@ G0 (: a 1)))").absent(0, "0");
        new Hall().is(0, "(: 1 2)").is(1, "(\\ a (\\ b (: b 1)))").absent(1, "10").absent(0, "");
    }

    static void all() {
        define();
        unbound();
        rules();
        fullOfRules();
        reset();
        undefined();
        sizes();
        cores();
        parameters();
        absent();
    }
}
