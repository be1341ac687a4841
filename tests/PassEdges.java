/** The edges of the passes: "Passes", and promise 16. */
final class PassEdges {
    private static final int MOST = Integer.MAX_VALUE;
    private static final int LEAST = Integer.MIN_VALUE;
    private static final int SIMPLIFY = Hall.SIMPLIFY, FLOAT_IN = Hall.FLOAT_IN, FLOAT_OUT = Hall.FLOAT_OUT,
            ARITY = Hall.ARITY, STRICT = Hall.STRICT, RULES = Hall.RULES;

    private static final String FIVE = "(\\ y (: y (c0 y)))";
    private static final String SIX = "(\\ y (: y (: y y)))";
    private static final String SEVEN = "(\\ y (: y (: y (c0 y))))";
    private static final String EIGHT = "(\\ y (: y (: y (: y y))))";
    private static final String NINE = "(\\ y (: y (: y (: y (c0 y)))))";

    // ---- what a pass makes of one core

    private static void turns(int pass, String text, int changed, String due) {
        new Hall().is(3, text).pass(pass, changed).core(3, due);
    }

    private static void leaves(int pass, String text) {
        turns(pass, text, 0, text);
    }

    /** What a pass makes of one core if G7 is defined. */
    private static void turnsWith(String g7, int pass, String text, int changed, String due) {
        new Hall().is(7, g7).is(3, text).pass(pass, changed).core(3, due).core(7, g7);
    }

    /** What a pass makes of a core that STRICT has made first. */
    private static void turnsStrict(String text, int forces, String strict, int pass, int changed, String due) {
        new Hall().is(3, text).pass(STRICT, forces).core(3, strict).pass(pass, changed).core(3, due);
    }

    private static String row(String part, int count) {
        return "(: " + (part + " (: ").repeat(count - 2) + part + " " + part + ")".repeat(count - 1);
    }

    private static String wrapped(int times, String inside) {
        return "(c1 ".repeat(times) + inside + ")".repeat(times);
    }

    /** A core that SIMPLIFY turns, by one change, into one of a size. */
    static String grown(int size) {
        int copies = (size + 1) / 7;
        return "(let f " + SIX + " " + wrapped(size - 7 * copies + 1, row("f", copies)) + ")";
    }

    static String grownNow(int size) {
        int copies = (size + 1) / 7;
        return wrapped(size - 7 * copies + 1, row(SIX, copies));
    }

    // ---- how a pass goes

    private static void coresAsTheyWere() {
        Doc.says("Passes", "A pass goes through the cores of all definitions, by their numbers, with all other cores as"
                + " they were ahead of it.");
        String shrinks = "(\\ a (: (+ 1 1) (: a (c0 a))))";
        String shrunk = "(\\ a (: 2 (: a (c0 a))))";
        for (int callee : new int[] {0, 7}) {
            int caller = 7 - callee;
            String call = "(@ G" + callee + " 5)";
            new Hall().is(callee, shrinks).is(caller, call).pass(SIMPLIFY, 1).core(callee, shrunk).core(caller, call)
                    .pass(SIMPLIFY, 1).core(caller, "(@ " + shrunk + " 5)");
            new Hall().is(callee, "(\\ a (+ 1 1))").is(caller, call).pass(SIMPLIFY, 2).core(callee, "(\\ a 2)")
                    .core(caller, "(@ (\\ a (+ 1 1)) 5)");
            String loses = "(\\ a (test 1 a G3))";
            new Hall().is(callee, loses).is(caller, call).pass(SIMPLIFY, 1).core(callee, "(\\ a a)").core(caller, call);
            new Hall().is(callee, "(let f " + SIX + " (\\ a (@ f f)))").is(caller, call).pass(SIMPLIFY, 1)
                    .core(caller, call);
            new Hall().is(callee, "(@ (\\ x x) (\\ a a))").is(caller, call).pass(SIMPLIFY, 1).core(caller, call);
        }
    }

    private static void once() {
        Doc.says("Passes", "In a core it does to each node, from the inside out and from the left, what it tells,"
                + " once;");
        turns(SIMPLIFY, "(+ (+ 1 2) (+ 3 4))", 3, "10");
        turns(SIMPLIFY, "(test (- 2 1) (+ 1 1) 3)", 3, "2");
        turns(SIMPLIFY, "(c0 (\\ a (: (+ 1 1) (rec b (+ 1 2) (+ 2 2)))))", 3, "(c0 (\\ a (: 2 (rec b 3 4))))");
        turns(SIMPLIFY, "(@ (@ (\\ a (\\ b (: a b))) 1) 2)", 2, "(let a 1 (@ (\\ b (: a b)) 2))");
        turns(SIMPLIFY, "(match (+ 1 1) (+ 1 2) a b (+ 1 3))", 3, "(match 2 3 a b 4)");
        Doc.says("Passes", "what it makes of a node is not gone through again.");
        turns(SIMPLIFY, "(let x 2 (+ x x))", 1, "(+ 2 2)");
        turns(SIMPLIFY, "(@ (\\ x x) 1)", 1, "(let x 1 x)");
        turns(SIMPLIFY, "(let f (\\ x x) (@ f 1))", 1, "(@ (\\ x x) 1)");
        turns(SIMPLIFY, "(match (: 1 2) 3 a b (+ a b))", 1, "(let a 1 (let b 2 (+ a b)))");
        turns(SIMPLIFY, "(let x nil (match x 1 a b 2))", 1, "(match nil 1 a b 2)");
        turns(SIMPLIFY, "(test (let x nil (: x x)) 1 2)", 1, "(let x nil (test (: x x) 1 2))");
        turnsWith("(\\ x x)", SIMPLIFY, "(@ G7 1)", 1, "(@ (\\ x x) 1)");
        turns(FLOAT_IN, "(let x nil (test G6 (test G5 x 1) 2))", 1, "(test G6 (let x nil (test G5 x 1)) 2)");
        turns(ARITY, "(let x 1 (\\ y (\\ z x)))", 1, "(\\ y (let x 1 (\\ z x)))");
        turns(FLOAT_OUT, "(\\ a (let x nil (let y (: x x) y)))", 1, "(let x nil (\\ a (let y (: x x) y)))");
        Hall hall = new Hall().rule(1, 0, 1, 2, 3).rule(2, 0, 3, 4, 5);
        hall.is(0, "(@ G1 (@ G2 (@ G4 1)))").pass(RULES, 1).core(0, "(@ G3 (@ G4 1))").pass(RULES, 1)
                .core(0, "(@ G5 1)");
    }

    private static void variablesOfTheirOwn() {
        Doc.says("Passes", "To replace a variable by something is to write this wherever it stands, each time with"
                + " variables of its own for those that it binds.");
        turns(SIMPLIFY, "(let f (\\ y y) (: f (: f (\\ z f))))", 1, "(: (\\ y y) (: (\\ y y) (\\ z (\\ y y))))");
        turns(SIMPLIFY, "(let f (\\ y (let z y (: z z))) (: f f))", 2, "(: (\\ y (: y y)) (\\ y (: y y)))");
        turns(SIMPLIFY, "(let f (\\ y (rec z y z)) (@ f f))", 1, "(@ (\\ y (rec z y z)) (\\ y (rec z y z)))");
        turns(SIMPLIFY, "(let f (\\ y (match y 1 a b a)) (: f f))", 1,
                "(: (\\ y (match y 1 a b a)) (\\ y (match y 1 a b a)))");
        turns(SIMPLIFY, "(let f (\\ y (match y 1 a b b)) (: f f))", 1,
                "(: (\\ y (match y 1 a b b)) (\\ y (match y 1 a b b)))");
        new Hall().is(0, "(let f (\\ y y) (@ f f))").pass(SIMPLIFY, 1).core(0, "(@ (\\ a a) (\\ b b))")
                .pass(SIMPLIFY, 1).core(0, "(let a (\\ b b) a)").pass(SIMPLIFY, 1).core(0, "(\\ b b)");
        new Hall().is(0, "(let f (\\ y (\\ z y)) (@ f (@ f f)))").pass(SIMPLIFY, 1).pass(SIMPLIFY, 2)
                .core(0, "(let a (let b (\\ c (\\ d c)) (\\ e b)) (\\ f a))");
        turns(SIMPLIFY, "(let f (\\ y y) (let g (\\ z (: f f)) (: g g)))", 2,
                "(: (\\ z (: (\\ y y) (\\ y y))) (\\ z (: (\\ y y) (\\ y y))))");
        Doc.says("Nodes", "whatever a pass moves keeps what it is bound to.");
        turns(SIMPLIFY, "(\\ y (let x y (\\ y (: x y))))", 1, "(\\ a (\\ b (: a b)))");
        turns(SIMPLIFY, "(\\ y (let x (\\ z y) (\\ y (: x (: x y)))))", 1, "(\\ a (\\ b (: (\\ z a) (: (\\ z a) b))))");
        turns(SIMPLIFY, "(\\ y (@ (\\ x (\\ y (: x y))) y))", 1, "(\\ a (let x a (\\ y (: x y))))");
        turns(SIMPLIFY, "(\\ x (@ (let x nil (: x x)) x))", 1, "(\\ a (let b nil (@ (: b b) a)))");
        turns(SIMPLIFY, "(\\ x (@ (rec x nil (: x x)) x))", 1, "(\\ a (rec b nil (@ (: b b) a)))");
        turns(SIMPLIFY, "(\\ x (test (let x nil (: x x)) x (c0 x)))", 1, "(\\ a (let b nil (test (: b b) a (c0 a))))");
        turns(SIMPLIFY, "(\\ a (match (let a nil (: a a)) a b c (: a b)))", 1,
                "(\\ a (let d nil (match (: d d) a b c (: a b))))");
        turns(SIMPLIFY, "(\\ a (\\ b (match (: b a) 1 a b (: a b))))", 1, "(\\ a (\\ b (let c b (let d a (: c d)))))");
        turns(FLOAT_IN, "(\\ h (let x (: h h) (match nil 1 h t (: x h))))", 1,
                "(\\ h (match nil 1 a t (let x (: h h) (: x a))))");
        turns(FLOAT_IN, "(\\ t (let x (: t t) (match nil 1 h t (: x t))))", 1,
                "(\\ t (match nil 1 h a (let x (: t t) (: x a))))");
        turns(FLOAT_OUT, "(\\ a (\\ b (let a (: a a) (: a b))))", 1, "(\\ a (let c (: a a) (\\ b (: c b))))");
        turns(ARITY, "(\\ a (let x a (\\ a (: a x))))", 1, "(\\ a (\\ b (let x a (: b x))))");
        turnsWith("(\\ x (\\ y (: x y)))", SIMPLIFY, "(\\ x (@ G7 x))", 1, "(\\ x (@ (\\ y (\\ z (: y z))) x))");
        turnsWith("(\\ x x)", SIMPLIFY, "(: (@ G7 1) (@ G7 (@ G7 2)))", 3,
                "(: (@ (\\ a a) 1) (@ (\\ b b) (@ (\\ c c) 2)))");
    }

    // ---- SIMPLIFY

    private static void simplifyApply() {
        Doc.says("Passes", "SIMPLIFY, the first of these that applies: (1) APPLY of a LAMBDA: a LET of its name, the"
                + " argument and its body.");
        turns(SIMPLIFY, "(@ (\\ x (: x x)) (: 1 2))", 1, "(let x (: 1 2) (: x x))");
        turns(SIMPLIFY, "(@ (\\ x 1) 2)", 1, "(let x 2 1)");
        leaves(SIMPLIFY, "(@ 1 (\\ x x))");
        leaves(SIMPLIFY, "(@ (c0 (\\ x x)) 1)");
        leaves(SIMPLIFY, "(@ (test G0 (\\ x x) (\\ x x)) 1)");
        leaves(SIMPLIFY, "(@ (match G0 (\\ x x) a b (\\ x x)) 1)");
        leaves(SIMPLIFY, "(@ (@ 1 2) 3)");
        leaves(SIMPLIFY, "(\\ f (@ f 3))");
        Doc.says("Passes", "(2) APPLY of a LET, LETREC or FORCE: that with the APPLY of its body in it.");
        turns(SIMPLIFY, "(@ (let x nil (: x x)) 1)", 1, "(let x nil (@ (: x x) 1))");
        turns(SIMPLIFY, "(@ (rec x nil (: x x)) 1)", 1, "(rec x nil (@ (: x x) 1))");
        turns(SIMPLIFY, "(@ (rec x nil 2) 1)", 1, "(rec x nil (@ 2 1))");
        turnsStrict("(@ (let x nil (+ x x)) 1)", 1, "(@ (force x nil (+ x x)) 1)", SIMPLIFY, 1,
                "(force x nil (@ (+ x x) 1))");
        turns(SIMPLIFY, "(@ (@ (rec x nil (\\ y x)) 1) 2)", 2, "(rec x nil (@ (@ (\\ y x) 1) 2))");
        leaves(SIMPLIFY, "(@ 1 (rec x nil x))");
        Doc.says("Passes", "(11) APPLY of a GLOBAL whose core is a LAMBDA of a size up to 8 without GLOBALs: APPLY of"
                + " that.");
        turnsWith("(\\ x x)", SIMPLIFY, "(@ G7 G7)", 1, "(@ (\\ x x) G7)");
        turnsWith(EIGHT, SIMPLIFY, "(@ G7 1)", 1, "(@ " + EIGHT + " 1)");
        turnsWith(NINE, SIMPLIFY, "(@ G7 1)", 0, "(@ G7 1)");
        for (String text : new String[] {"(\\ x G6)", "(\\ x (: x G7))", "(\\ x (@ G3 x))", "(\\ x (\\ y (c0 G0)))"}) {
            turnsWith(text, SIMPLIFY, "(@ G7 1)", 0, "(@ G7 1)");
        }
        for (String text : new String[] {"1", "nil", "(: 1 2)", "(c0 (\\ x x))", "(rec f (\\ x x) f)", "G6"}) {
            turnsWith(text, SIMPLIFY, "(@ G7 1)", 0, "(@ G7 1)");
        }
        leaves(SIMPLIFY, "(@ G7 1)");
        leaves(SIMPLIFY, "(@ G3 1)");
        turnsWith("(\\ x x)", SIMPLIFY, "(: G7 (@ 1 G7))", 0, "(: G7 (@ 1 G7))");
        turnsWith("(\\ x x)", SIMPLIFY, "(@ 7 1)", 0, "(@ 7 1)");
        new Hall().is(0, "(\\ x x)").is(1, "(@ 0 5)").is(2, "(@ nil 5)").is(3, "(\\ f (@ f 1))").pass(SIMPLIFY, 0);
        new Hall().is(0, "(\\ x (\\ y x))").is(5, "(@ G0 1 2)").pass(SIMPLIFY, 1).core(5, "(@ (\\ x (\\ y x)) 1 2)");
    }

    private static void simplifyLet() {
        Doc.says("Passes", "(3) LET, whose name does not occur in the body: the body.");
        turns(SIMPLIFY, "(let x (: 1 2) nil)", 1, "nil");
        turns(SIMPLIFY, "(let x (rec y y y) (let x nil (: x x)))", 1, "(let x nil (: x x))");
        turns(SIMPLIFY, "(let x nil (\\ x x))", 1, "(\\ x x)");
        leaves(SIMPLIFY, "(rec x 1 2)");
        leaves(SIMPLIFY, "(rec x nil x)");
        turns(SIMPLIFY, "(let x nil (: (\\ y x) 1))", 0, "(let x nil (: (\\ y x) 1))");
        turnsStrict("(let x nil (test 1 x x))", 1, "(force x nil (test 1 x x))", SIMPLIFY, 1, "(force x nil x)");
        Doc.says("Passes", "(4) LET, whose value is a NUMBER, VARIABLE or GLOBAL: the body with it in place of the"
                + " name.");
        for (String atom : new String[] {"5", "G7", "G0", "0"}) {
            turns(SIMPLIFY, "(let x " + atom + " (: x (\\ y (: x x))))", 1,
                    "(: " + atom + " (\\ y (: " + atom + " " + atom + ")))");
            turns(SIMPLIFY, "(let x " + atom + " x)", 1, atom);
        }
        turns(SIMPLIFY, "(\\ z (let x z (: x (\\ y (: x x)))))", 1, "(\\ z (: z (\\ y (: z z))))");
        leaves(SIMPLIFY, "(rec x 1 (: x x))");
        leaves(SIMPLIFY, "(rec x G1 (: x x))");
        for (String value : new String[] {"nil", "(: 1 2)", "(c0 1)", "(@ 1 2)", "(< nil 1)", "(test nil 1 2)",
            "(match 1 2 a b 3)", "(rec a a a)", "(let a nil (: a a))"}) {
            leaves(SIMPLIFY, "(let x " + value + " (: x x))");
        }
        Doc.says("Passes", "(5) LET, whose name occurs once in the body, and not within a LAMBDA there: likewise.");
        turns(SIMPLIFY, "(let x (: 1 2) x)", 1, "(: 1 2)");
        turns(SIMPLIFY, "(let x (: 1 2) (: x (\\ y y)))", 1, "(: (: 1 2) (\\ y y))");
        turns(SIMPLIFY, "(let x nil (rec y x (c0 y)))", 1, "(rec y nil (c0 y))");
        turns(SIMPLIFY, "(let x nil (match 1 2 a b (test 0 4 x)))", 2, "(match 1 2 a b nil)");
        turns(SIMPLIFY, "(let x nil (match 1 x a b 2))", 1, "(match 1 nil a b 2)");
        turns(SIMPLIFY, "(let x nil (let x (: x x) (: x x)))", 0, "(let x nil (let x (: x x) (: x x)))");
        turns(SIMPLIFY, "(let x nil (let x (c0 x) (: x x)))", 1, "(let x (c0 nil) (: x x))");
        leaves(SIMPLIFY, "(let x nil (\\ y x))");
        leaves(SIMPLIFY, "(let x nil (: 1 (\\ y (: y x))))");
        leaves(SIMPLIFY, "(let x nil (: 1 (\\ y (\\ z (c0 x)))))");
        leaves(SIMPLIFY, "(let x nil (: x x))");
        leaves(SIMPLIFY, "(let x nil (: x (\\ y x)))");
        leaves(SIMPLIFY, "(rec y nil (rec x nil x))");
        Doc.says("Passes", "(6) LET, whose value is a LAMBDA of a size up to 6: likewise.");
        turns(SIMPLIFY, "(let f (\\ x 1) (: f f))", 1, "(: (\\ x 1) (\\ x 1))");
        turns(SIMPLIFY, "(let f " + SIX + " (: f f))", 1, "(: " + SIX + " " + SIX + ")");
        turns(SIMPLIFY, "(let f " + SIX + " (\\ z f))", 1, "(\\ z " + SIX + ")");
        leaves(SIMPLIFY, "(let f " + SEVEN + " (: f f))");
        leaves(SIMPLIFY, "(let f " + SEVEN + " (\\ z f))");
        turns(SIMPLIFY, "(let f " + SEVEN + " (c0 f))", 1, "(c0 " + SEVEN + ")");
        leaves(SIMPLIFY, "(rec f " + FIVE + " (: f f))");
        leaves(SIMPLIFY, "(let f (c0 (\\ x x)) (: f f))");
        turns(SIMPLIFY, "(let f (\\ x (: (+ 1 2) (: x x))) (: f f))", 2,
                "(: (\\ x (: 3 (: x x))) (\\ x (: 3 (: x x))))");
    }

    private static void simplifyMatch() {
        Doc.says("Passes", "(7) MATCH of NIL: what is to be done for it;");
        turns(SIMPLIFY, "(match nil 1 a b 2)", 1, "1");
        turns(SIMPLIFY, "(match nil (: 1 1) a b (: a b))", 1, "(: 1 1)");
        Doc.says("Passes", "of CONS: a LET of the first name and the head, in it a LET of the second name and the tail,"
                + " in it what is to be done for CONS.");
        turns(SIMPLIFY, "(match (: 1 2) 3 a b (: b a))", 1, "(let a 1 (let b 2 (: b a)))");
        turns(SIMPLIFY, "(match (: 1 2) 3 b a (: b a))", 1, "(let b 1 (let a 2 (: b a)))");
        turns(SIMPLIFY, "(match (: 1 2) 3 a b 4)", 1, "(let a 1 (let b 2 4))");
        turns(SIMPLIFY, "(match (: nil (: 1 2)) 3 a b 4)", 1, "(let a nil (let b (: 1 2) 4))");
        for (String list : new String[] {"1", "G7", "(c0 nil)", "(\\ x x)", "(@ 1 2)", "(+ nil 1)", "(test nil 1 2)",
            "(match 1 2 a b 3)"}) {
            leaves(SIMPLIFY, "(match " + list + " 3 a b (: a b))");
        }
        Doc.says("Passes", "(8) MATCH or TEST of a LET, LETREC or FORCE: that with the MATCH or TEST of its body in"
                + " it.");
        for (String let : new String[] {"let", "rec"}) {
            turns(SIMPLIFY, "(match (" + let + " x nil (: x x)) 3 a b (: b a))", 1,
                    "(" + let + " x nil (match (: x x) 3 a b (: b a)))");
            turns(SIMPLIFY, "(test (" + let + " x nil (: x x)) 3 4)", 1, "(" + let + " x nil (test (: x x) 3 4))");
        }
        turns(SIMPLIFY, "(test (rec x nil 1) 3 4)", 1, "(rec x nil (test 1 3 4))");
        turns(SIMPLIFY, "(match (rec x nil nil) 3 a b 4)", 1, "(rec x nil (match nil 3 a b 4))");
        turnsStrict("(test (let x nil (+ x x)) 3 4)", 1, "(test (force x nil (+ x x)) 3 4)", SIMPLIFY, 1,
                "(force x nil (test (+ x x) 3 4))");
        turnsStrict("(match (let x nil (+ x x)) 3 a b (: a b))", 1, "(match (force x nil (+ x x)) 3 a b (: a b))",
                SIMPLIFY, 1, "(force x nil (match (+ x x) 3 a b (: a b)))");
        leaves(SIMPLIFY, "(+ (rec x nil 1) 3)");
        leaves(SIMPLIFY, "(c0 (rec x nil 1))");
    }

    private static void simplifyNumbers() {
        Doc.says("Passes", "(9) TEST of a NUMBER: what is to be done.");
        for (String so : new String[] {"1", "-1", "2", "4294967296", "9223372036854775807", "-9223372036854775808"}) {
            turns(SIMPLIFY, "(test " + so + " nil (: 1 2))", 1, "nil");
        }
        turns(SIMPLIFY, "(test 0 nil (: 1 2))", 1, "(: 1 2)");
        leaves(SIMPLIFY, "(test nil 1 2)");
        leaves(SIMPLIFY, "(test (: 1 2) 1 2)");
        leaves(SIMPLIFY, "(test (\\ x x) 1 2)");
        leaves(SIMPLIFY, "(test G1 1 2)");
        leaves(SIMPLIFY, "(test (c0 1) 1 2)");
        Doc.says("Passes", "(10) PRIMITIVE of two NUMBERs: the NUMBER.");
        for (String[] sum : EvaluationEdges.SUMS) {
            turns(SIMPLIFY, sum[0], 1, sum[1]);
        }
        for (String sign : new String[] {"+", "-", "*", "<", "="}) {
            leaves(SIMPLIFY, "(" + sign + " 1 nil)");
            leaves(SIMPLIFY, "(" + sign + " nil 1)");
            leaves(SIMPLIFY, "(" + sign + " 1 (c0 1))");
            leaves(SIMPLIFY, "(" + sign + " G1 G1)");
        }
        leaves(SIMPLIFY, "(: 1 2)");
        leaves(SIMPLIFY, "(@ 1 2)");
    }

    // ---- the other passes

    private static void floatIn() {
        Doc.says("Passes", "FLOAT_IN: LET, whose body is a MATCH or a TEST, and whose name does not occur in what is"
                + " matched or tested, and in just one of the two that are to be done: that with the LET in it there.");
        for (String value : new String[] {"1", "nil", "G3", "(\\ y y)", "(c0 1)"}) {
            turns(FLOAT_IN, "(let x " + value + " (test G6 x 2))", 1, "(test G6 (let x " + value + " x) 2)");
            turns(FLOAT_IN, "(let x " + value + " (test G6 2 (: x x)))", 1,
                    "(test G6 2 (let x " + value + " (: x x)))");
            turns(FLOAT_IN, "(let x " + value + " (match G6 (: x x) a b a))", 1,
                    "(match G6 (let x " + value + " (: x x)) a b a)");
            turns(FLOAT_IN, "(let x " + value + " (match G6 2 a b (: a (: b x))))", 1,
                    "(match G6 2 a b (let x " + value + " (: a (: b x))))");
        }
        turns(FLOAT_IN, "(let x nil (test G6 (\\ y x) 2))", 1, "(test G6 (let x nil (\\ y x)) 2)");
        leaves(FLOAT_IN, "(let x nil (test G6 1 2))");
        leaves(FLOAT_IN, "(let x nil (test G6 x x))");
        leaves(FLOAT_IN, "(let x nil (test x 1 2))");
        leaves(FLOAT_IN, "(let x nil (test x x 2))");
        leaves(FLOAT_IN, "(let x nil (test x 1 x))");
        leaves(FLOAT_IN, "(let x nil (test (c0 (\\ y x)) 1 x))");
        leaves(FLOAT_IN, "(let x nil (match G6 1 a b 2))");
        leaves(FLOAT_IN, "(let x nil (match G6 x a b x))");
        leaves(FLOAT_IN, "(let x nil (match x x a b 1))");
        leaves(FLOAT_IN, "(let x nil (match x 1 a b x))");
        leaves(FLOAT_IN, "(rec x nil (test G6 x 2))");
        leaves(FLOAT_IN, "(rec x nil (match G6 1 a b x))");
        for (String body : new String[] {"x", "(: x 1)", "(c0 (test 1 x 2))", "(let y nil (: y x))", "(\\ y x)",
            "(@ (test 1 x 2) 3)", "(+ x 1)"}) {
            leaves(FLOAT_IN, "(let x nil " + body + ")");
        }
        turns(FLOAT_IN, "(let x nil (let y nil (test G6 (: x y) 1)))", 2,
                "(test G6 (let x nil (let y nil (: x y))) 1)");
        turns(FLOAT_IN, "(let x nil (let y x (test G6 y 1)))", 2, "(test G6 (let x nil (let y x y)) 1)");
        turns(FLOAT_IN, "(let x nil (let y nil (test x y 1)))", 1, "(let x nil (test x (let y nil y) 1))");
        turnsStrict("(let x nil (test x 1 x))", 1, "(force x nil (test x 1 x))", FLOAT_IN, 0,
                "(force x nil (test x 1 x))");
        turnsStrict("(let x nil (test 1 x x))", 1, "(force x nil (test 1 x x))", FLOAT_IN, 0,
                "(force x nil (test 1 x x))");
    }

    private static void floatOut() {
        Doc.says("Passes", "FLOAT_OUT: LAMBDA, whose body is a LET with a value in which its name does not occur, and"
                + " which is no NUMBER, VARIABLE, GLOBAL or LAMBDA: the LET, with the LAMBDA of its body in it.");
        for (String value : new String[] {"nil", "(: 1 2)", "(@ 1 2)", "(let b nil b)", "(rec b b b)", "(+ 1 2)",
            "(match 1 2 b c 3)", "(test 1 2 3)", "(c0 1)", "(c0 (\\ a a))", "(let a 1 a)"}) {
            turns(FLOAT_OUT, "(\\ a (let x " + value + " (: x a)))", 1, "(let x " + value + " (\\ a (: x a)))");
        }
        for (String value : new String[] {"1", "0", "G7", "(\\ b b)", "a", "(: a 1)", "(: 1 a)", "(c0 a)", "(: a a)",
            "(c0 (\\ b a))"}) {
            leaves(FLOAT_OUT, "(\\ a (let x " + value + " (: x a)))");
        }
        leaves(FLOAT_OUT, "(\\ b (\\ a (let x b (: x a))))");
        leaves(FLOAT_OUT, "(\\ a (rec x nil (: x a)))");
        leaves(FLOAT_OUT, "(\\ a (c0 (let x nil (: x a))))");
        leaves(FLOAT_OUT, "(\\ a (: (let x nil (: x a)) 1))");
        leaves(FLOAT_OUT, "(c0 (let x nil (: x x)))");
        turns(FLOAT_OUT, "(\\ a (let x nil 1))", 1, "(let x nil (\\ a 1))");
        turns(FLOAT_OUT, "(\\ a (\\ b (let x nil (: x a))))", 2, "(let x nil (\\ a (\\ b (: x a))))");
        turns(FLOAT_OUT, "(\\ a (\\ b (let x (: a 1) (: x b))))", 1, "(\\ a (let x (: a 1) (\\ b (: x b))))");
        turnsStrict("(\\ a (let x nil (+ x a)))", 1, "(\\ a (force x nil (+ x a)))", FLOAT_OUT, 0,
                "(\\ a (force x nil (+ x a)))");
        turnsStrict("(\\ a (let y (let x nil (+ x x)) (: y y)))", 1, "(\\ a (let y (force x nil (+ x x)) (: y y)))",
                FLOAT_OUT, 1, "(let y (force x nil (+ x x)) (\\ a (: y y)))");
    }

    private static void arity() {
        Doc.says("Passes", "ARITY: LET, whose value is a NUMBER, a VARIABLE or a LAMBDA, and whose body is a LAMBDA:"
                + " the LAMBDA with the LET in it.");
        for (String value : new String[] {"1", "0", "(\\ b b)", NINE}) {
            turns(ARITY, "(let x " + value + " (\\ a (: x a)))", 1, "(\\ a (let x " + value + " (: x a)))");
        }
        turns(ARITY, "(\\ z (let x z (\\ a (: x a))))", 1, "(\\ z (\\ a (let x z (: x a))))");
        turns(ARITY, "(let x 1 (\\ a 2))", 1, "(\\ a (let x 1 2))");
        turns(ARITY, "(let x 1 (let y 2 (\\ a (: x y))))", 2, "(\\ a (let x 1 (let y 2 (: x y))))");
        for (String value : new String[] {"nil", "G7", "(: 1 2)", "(@ 1 2)", "(let b nil b)", "(rec b b b)", "(+ 1 2)",
            "(match 1 2 b c 3)", "(test 1 2 3)", "(c0 (\\ b b))"}) {
            leaves(ARITY, "(let x " + value + " (\\ a (: x a)))");
        }
        for (String body : new String[] {"x", "1", "(c0 (\\ a x))", "(: (\\ a a) x)", "(rec b b (\\ a x))", "nil"}) {
            leaves(ARITY, "(let x 1 " + body + ")");
        }
        leaves(ARITY, "(rec x 1 (\\ a (: x a)))");
        leaves(ARITY, "(rec x (\\ b x) (\\ a (: x a)))");
    }

    private static void strict() {
        Doc.says("Passes", "STRICT: LET, in whose body its name is needed: FORCE.");
        Doc.says("Nodes", "FORCE: as LET, but the value is evaluated first (made by the pass STRICT alone).");
        for (String value : new String[] {"1", "nil", "G3", "(\\ y y)", "(c0 1)", "(: 1 2)"}) {
            turns(STRICT, "(let x " + value + " x)", 1, "(force x " + value + " x)");
        }
        leaves(STRICT, "(let x 1 2)");
        leaves(STRICT, "(let x 1 (: x x))");
        leaves(STRICT, "(let x 1 (\\ y x))");
        leaves(STRICT, "(let x 1 (test nil x 2))");
        leaves(STRICT, "(let x 1 (test nil 2 x))");
        leaves(STRICT, "(rec x 1 x)");
        leaves(STRICT, "(rec x 1 (+ x x))");
        turns(STRICT, "(let x 1 (let x x x))", 2, "(force x 1 (force y x y))");
        turns(STRICT, "(let x 1 (let x 2 x))", 1, "(let x 1 (force y 2 y))");
        turns(STRICT, "(: (let x 1 x) (\\ y (let z y z)))", 2, "(: (force x 1 x) (\\ y (force z y z)))");
        turns(STRICT, "(let x (let y 1 y) (: x x))", 1, "(let x (force y 1 y) (: x x))");
        turnsStrict("(let x 1 x)", 1, "(force x 1 x)", STRICT, 0, "(force x 1 x)");
        turnsWith("(\\ a (\\ b b))", STRICT, "(let x 1 (let y 2 (@ G7 x y)))", 1, "(let x 1 (force y 2 (@ G7 x y)))");
        turnsWith("(\\ a (\\ b b))", STRICT, "(let x 1 (let y 2 (@ G7 y)))", 0, "(let x 1 (let y 2 (@ G7 y)))");
        new Hall().is(0, "(let x 1 (@ G1 x))").is(1, "(\\ a (let y a y))").pass(STRICT, 2)
                .core(0, "(force x 1 (@ G1 x))").core(1, "(\\ a (force y a y))");
    }

    /** A LET at the end of cores of all sizes, with up to as many variables ahead of its own as a core can have. */
    private static void strictBehindMany(String let, int changed, String strict) {
        String five = "(\\ y (\\ y (\\ y (\\ y (\\ y 1)))))";
        int size = Expr.of("(\\ v " + let + ")").size() - 1;
        for (int copies = 2; copies <= 16; copies += 2) {
            for (int lambdas = 0; lambdas <= Math.min(73 - 2 * copies, 150 - 7 * copies) - size; lambdas++) {
                String told = "(\\ z ".repeat(lambdas) + "(let f " + five + " " + "(rec g f ".repeat(copies);
                String now = "(\\ z ".repeat(lambdas) + ("(rec g " + five + " ").repeat(copies);
                String end = ")".repeat(lambdas + copies);
                new Hall().is(0, told + let + ")" + end).pass(SIMPLIFY, 1).core(0, now + let + end)
                        .pass(STRICT, changed)
                        .core(0, now + strict + end);
            }
        }
    }

    private static void strictWithManyVariables() {
        Doc.says("Passes", "STRICT: LET, in whose body its name is needed: FORCE.");
        for (String body : new String[] {"(+ v v)", "(test G0 v v)", "(test v 1 v)", "(c0 (+ v v))", "(@ (+ v v) 1)"}) {
            strictBehindMany("(let v nil " + body + ")", 1, "(force v nil " + body + ")");
        }
        for (String body : new String[] {"(: v v)", "(test G0 (: v v) v)", "(test nil v (c0 (: v v)))",
                "(c0 (\\ y v))"}) {
            strictBehindMany("(let v nil " + body + ")", 0, "(let v nil " + body + ")");
        }
        for (int count = 1; count <= 19; count++) {
            StringBuilder sum = new StringBuilder("1");
            StringBuilder lets = new StringBuilder();
            StringBuilder forces = new StringBuilder();
            for (char name = 'a'; name < 'a' + count; name++) {
                sum.insert(0, "(- ").append(' ').append(name).append(')');
                lets.append("(let ").append(name).append(" 1 ");
                forces.append("(force ").append(name).append(" 1 ");
            }
            for (int hidden = 0; hidden <= (79 - 4 * count) / 2; hidden += 3) {
                String front = "(rec z 1 ".repeat(hidden);
                String end = sum + ")".repeat(hidden + count);
                turns(STRICT, front + lets + end, count, front + forces + end);
            }
        }
    }

    /** What is needed is found for each core anew: these two are alike but for what their last node is. */
    private static void strictOneByOne() {
        Doc.says("Passes", "STRICT: LET, in whose body its name is needed: FORCE.");
        String ahead = "(let f (\\ y (\\ y (\\ y (\\ y (\\ y 1))))) " + "(rec g f ".repeat(11);
        String end = ")".repeat(12);
        for (int order = 0; order < 2; order++) {
            new Hall().is(order, ahead + "(let v nil (+ (c0 (c0 (c0 (c0 v)))) v))" + end)
                    .is(1 - order, ahead + "(let v nil (+ (c0 (\\ y (: v v))) 1))" + end).pass(SIMPLIFY, 2)
                            .pass(STRICT, 1)
                    .pass(STRICT, 0);
        }
    }

    private static void rules() {
        Doc.says("Passes", "RULES of a phase, 0 to 2: APPLY of a GLOBAL to an APPLY of a GLOBAL, for which there is a"
                + " rule of this phase, of several the first one: APPLY of the third GLOBAL of the rule to the argument"
                + " of the inner one.");
        for (int phase = 0; phase < 3; phase++) {
            Hall hall = new Hall().rule(1, phase, 0, 7, 3).is(1, "(@ G0 (@ G7 (: 1 2)))");
            hall.pass(RULES + (phase + 1) % 3, 0).pass(RULES + (phase + 2) % 3, 0).pass(RULES + phase, 1)
                    .core(1, "(@ G3 (: 1 2))").pass(RULES + phase, 0);
        }
        Hall hall = new Hall().rule(1, 1, 2, 3, 4).rule(2, 0, 2, 3, 5).rule(3, 0, 2, 3, 6).rule(4, 0, 7, 0, 0)
                .rule(5, 0, 0, 7, 7).rule(6, 2, 2, 3, 2);
        hall.is(0, "(@ G2 (@ G3 1))").pass(RULES, 1).core(0, "(@ G5 1)");
        hall.is(0, "(@ G2 (@ G3 1))").pass(RULES + 1, 1).core(0, "(@ G4 1)");
        hall.is(0, "(@ G2 (@ G3 1))").pass(RULES + 2, 1).core(0, "(@ G2 1)");
        hall.is(0, "(@ G7 (@ G0 1))").pass(RULES, 1).core(0, "(@ G0 1)");
        hall.is(0, "(@ G0 (@ G7 1))").pass(RULES, 1).core(0, "(@ G7 1)");
        for (String text : new String[] {"(@ G3 (@ G2 1))", "(@ G2 (@ G2 1))", "(@ G3 (@ G3 1))", "(@ G2 G3 1)",
                "(@ G2 1)",
            "(@ G2 (: G3 1))", "(: G2 (@ G3 1))", "(@ 2 (@ G3 1))", "(@ G2 (@ 3 1))", "(@ (c0 G2) (@ G3 1))",
            "(@ G2 (c0 (@ G3 1)))", "(@ G2 (@ (c0 G3) 1))", "(@ G2 (@ G3 1 2))", "(@ G2 (let x 1 (@ G3 x)))",
            "(@ (@ G2 1) (@ G3 1))", "(@ G0 (@ G0 1))", "(@ G7 (@ G7 1))", "(@ G1 (@ G7 1))", "(@ G0 (@ G6 1))"}) {
            hall.is(1, text).pass(RULES, 0).core(1, text);
        }
        hall.is(1, "(@ G2 (@ G3 1) 2)").pass(RULES, 1).core(1, "(@ G5 1 2)");
        hall.is(1, "(\\ x (@ G2 (@ G3 x)))").pass(RULES, 1).core(1, "(\\ x (@ G5 x))");
        new Hall().is(0, "(@ G2 (@ G3 1))").pass(RULES, 0).pass(RULES + 1, 0).pass(RULES + 2, 0);
        Hall chain = new Hall().rule(1, 0, 0, 0, 0);
        chain.is(0, "(@ G0 (@ G0 (@ G0 (@ G0 1))))").pass(RULES, 3).core(0, "(@ G0 1)");
        Hall inner = new Hall().rule(1, 0, 1, 2, 3).rule(2, 0, 4, 3, 5).rule(3, 0, 4, 1, 6);
        inner.is(0, "(@ G4 (@ G1 (@ G2 1)))").pass(RULES, 2).core(0, "(@ G5 1)");
    }

    // ---- promise 16

    private static void ranges() {
        Doc.says("Promise 16", "pass: SIMPLIFY to STRICT, or 5 to 7 for RULES of the phase 0 to 2");
        Hall hall = new Hall();
        for (int pass = 0; pass < 8; pass++) {
            hall.pass(pass, 0);
        }
        new Hall().rule(1, 2, 1, 1, 1).is(0, "(@ G1 (@ G1 1))").pass(7, 1).core(0, "(@ G1 1)");
        Doc.says("Promise 16", "Throws IllegalArgumentException if pass is out of range");
        SpinelessHall h = hall.is(0, "(+ 1 2)").hall;
        for (int wrong : new int[] {-1, 8, 9, LEAST, MOST, 256, -8}) {
            Check.refuses(Doc.sentence() + " | " + wrong, Check.ARGUMENT, () -> h.pass(wrong));
        }
        hall.core(0, "(+ 1 2)");
    }

    private static void changes() {
        Doc.says("Promise 16", "Does a pass.");
        Doc.says("Promise 16", "Returns how many nodes it changed, in all cores.");
        Hall hall = new Hall();
        for (int i = 0; i < 8; i++) {
            hall.is(i, "(: (+ 1 2) (+ 2 1))").pass(SIMPLIFY, 2);
        }
        hall.reset(8).pass(SIMPLIFY, 16).pass(SIMPLIFY, 0);
        for (int i = 0; i < 8; i++) {
            hall.core(i, "(: 3 3)");
        }
        new Hall().is(0, "1").is(7, "nil").pass(SIMPLIFY, 0);
        turns(SIMPLIFY, "(test 1 2 (+ 1 (+ 1 1)))", 3, "2");
    }

    private static void size150() {
        Doc.says("Promise 16", "Throws IllegalStateException if some node, with all that was done in it and to it,"
                + " would be of a size above 150");
        turns(SIMPLIFY, grown(149), 1, grownNow(149));
        turns(SIMPLIFY, grown(150), 1, grownNow(150));
        for (int size = 151; size < 170; size++) {
            refuses(grown(size));
        }
        refuses("(let f " + SIX + " " + row("f", 36) + ")");
        String[][] parents = {{"(c1 ", ")"}, {"(\\ a ", ")"}, {"(@ ", " 1)"}, {"(@ 1 ", ")"}, {"(let a ", " (: a a))"},
            {"(rec a ", " 1)"}, {"(rec a 1 ", ")"}, {"(+ ", " 1)"}, {"(+ 1 ", ")"}, {"(: ", " 1)"}, {"(: 1 ", ")"},
            {"(match ", " 1 a b 2)"}, {"(match 1 ", " a b 2)"}, {"(match 1 2 a b ", ")"}, {"(test ", " 1 2)"},
            {"(test G1 ", " 2)"}, {"(test G1 2 ", ")"}};
        for (String[] p : parents) {
            int more = Expr.of(p[0] + "1" + p[1]).size() - 1;
            int size = 150 - more;
            new Hall().is(0, p[0] + grown(size) + p[1]).pass(SIMPLIFY, 1).core(0, p[0] + grownNow(size) + p[1]);
            refuses(p[0] + grown(size + 1) + p[1]);
        }
        new Hall().is(0, "(: " + grown(75) + " " + grown(74) + ")").pass(SIMPLIFY, 2)
                .core(0, "(: " + grownNow(75) + " " + grownNow(74) + ")");
        refuses("(: " + grown(75) + " " + grown(75) + ")");
        refuses("(: " + grown(74) + " " + grown(76) + ")");
    }

    private static void size150OfGlobals() {
        Doc.says("Promise 16", "Throws IllegalStateException if some node, with all that was done in it and to it,"
                + " would be of a size above 150");
        String calls = row("(@ G7 1)", 13);
        String called = row("(@ " + EIGHT + " 1)", 13);
        new Hall().is(7, EIGHT).is(3, wrapped(8, calls)).pass(SIMPLIFY, 13).core(3, wrapped(8, called));
        new Hall().is(7, EIGHT).is(3, wrapped(9, calls)).refusesPass(SIMPLIFY).core(3, wrapped(9, calls));
    }

    private static void refuses(String text) {
        new Hall().is(2, "(+ 1 2)").is(3, text).is(4, "(+ 3 4)").refusesPass(SIMPLIFY).core(2, "(+ 1 2)").core(3, text)
                .core(4, "(+ 3 4)").pass(FLOAT_IN, 0).is(3, "(+ 5 6)").pass(SIMPLIFY, 3).core(2, "3");
    }

    /** What is done to a node may make it small again; what is dropped is judged all the same. */
    private static void droppedAgain() {
        Doc.says("Promise 16", "if some node, with all that was done in it and to it, would be of a size above 150");
        turns(SIMPLIFY, "(test 1 2 " + grown(150) + ")", 2, "2");
        turns(SIMPLIFY, "(test 0 " + grown(150) + " 2)", 2, "2");
        turns(SIMPLIFY, "(test 1 " + grown(150) + " 2)", 2, grownNow(150));
        turns(SIMPLIFY, "(match nil 1 a b " + grown(150) + ")", 2, "1");
        turns(SIMPLIFY, "(match nil " + grown(150) + " a b 1)", 2, grownNow(150));
        turns(SIMPLIFY, "(let x " + grown(150) + " 1)", 2, "1");
        turns(SIMPLIFY, "(let x " + grown(149) + " (c0 x))", 2, "(c0 " + grownNow(149) + ")");
        turns(SIMPLIFY, "(test 1 (test 0 " + grown(150) + " 2) (+ 1 1))", 4, "2");
        refuses("(let x " + grown(150) + " (c0 x))");
        refuses("(test 1 2 " + grown(151) + ")");
        refuses("(test 1 2 (c0 " + grown(150) + "))");
        refuses("(let x (c0 " + grown(150) + ") 1)");
        refuses("(match nil 1 a b (: " + grown(75) + " " + grown(75) + "))");
    }

    private static void fullOfCores() {
        Doc.says("Promise 16", "if some node, with all that was done in it and to it, would be of a size above 150");
        Hall hall = new Hall();
        for (int i = 0; i < 8; i++) {
            hall.is(i, "(\\ q " + grown(149) + ")");
        }
        hall.pass(SIMPLIFY, 8);
        for (int pass = 0; pass < 8; pass++) {
            hall.pass(pass, 0);
        }
        for (int i = 0; i < 8; i++) {
            hall.core(i, "(\\ q " + grownNow(149) + ")").needs(i, "0").absent(i, "1").run(i, 9, Hall.FUNCTION).live(0);
        }
        hall.reset(8).core(0, "(\\ q " + grown(149) + ")").core(7, "(\\ q " + grown(149) + ")");
    }

    static void all() {
        coresAsTheyWere();
        once();
        variablesOfTheirOwn();
        simplifyApply();
        simplifyLet();
        simplifyMatch();
        simplifyNumbers();
        floatIn();
        floatOut();
        arity();
        strict();
        strictWithManyVariables();
        strictOneByOne();
        rules();
        ranges();
        changes();
        size150();
        size150OfGlobals();
        droppedAgain();
        fullOfCores();
    }
}
