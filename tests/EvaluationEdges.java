/** The edges of how a run evaluates, and of what it prints: "Evaluation". */
final class EvaluationEdges {
    private static final int NUMBER = Hall.NUMBER, FUNCTION = Hall.FUNCTION, LIST = Hall.LIST, STUCK = Hall.STUCK,
            LOOP = Hall.LOOP, TOO_FAR = Hall.TOO_FAR;
    private static final String STUCK_ONE = "(@ 1 1)";
    private static final String LOOP_ONE = "(rec x x x)";

    /** Of two numbers, and what it is: edges of the signs and of what a long holds. */
    static final String[][] SUMS = {
        {"(+ 1 2)", "3"}, {"(+ 9223372036854775807 1)", "-9223372036854775808"},
        {"(+ -9223372036854775808 -1)", "9223372036854775807"}, {"(+ 9223372036854775807 9223372036854775807)", "-2"},
        {"(+ 4294967295 1)", "4294967296"}, {"(+ 2147483647 1)", "2147483648"},
        {"(- 1 2)", "-1"}, {"(- 2 1)", "1"}, {"(- -9223372036854775808 1)", "9223372036854775807"},
        {"(- 0 -9223372036854775808)", "-9223372036854775808"}, {"(- 9223372036854775807 -1)", "-9223372036854775808"},
        {"(* 3 -4)", "-12"}, {"(* 9223372036854775807 2)", "-2"},
                {"(* -9223372036854775808 -1)", "-9223372036854775808"},
        {"(* 4294967296 4294967296)", "0"}, {"(* 9223372036854775807 9223372036854775807)", "1"},
        {"(* 65536 65536)", "4294967296"},
        {"(< 1 2)", "1"}, {"(< 2 2)", "0"}, {"(< 3 2)", "0"}, {"(< -1 0)", "1"}, {"(< 0 -1)", "0"},
        {"(< -9223372036854775808 9223372036854775807)", "1"}, {"(< 9223372036854775807 -9223372036854775808)", "0"},
        {"(< -9223372036854775808 1)", "1"}, {"(< 1 -9223372036854775808)", "0"}, {"(< 0 4294967296)", "1"},
        {"(= 2 2)", "1"}, {"(= 2 3)", "0"}, {"(= 0 4294967296)", "0"}, {"(= 1 4294967297)", "0"},
        {"(= 9223372036854775807 9223372036854775807)", "1"}, {"(= 9223372036854775807 -9223372036854775808)", "0"},
    };

    /** Runs a term that gives something; with what it prints. */
    private static Hall gives(String text, int outcome, int steps, int cells, String print) {
        return new Hall().is(3, text).run(3, 1000, outcome).steps(steps).cells(cells).prints(print).refusesGoOn();
    }

    private static Hall number(String text, int steps, int cells, String print) {
        return gives(text, NUMBER, steps, cells, print);
    }

    private static Hall function(String text, int steps, int cells) {
        return gives(text, FUNCTION, steps, cells, "fn");
    }

    private static Hall list(String text, int steps, int cells, String print) {
        return gives(text, LIST, steps, cells, print);
    }

    /** Runs a term that gives nothing. */
    private static Hall ends(String text, int outcome, int steps, int cells) {
        return new Hall().is(3, text).run(3, 1000, outcome).steps(steps).cells(cells).refusesResult().refusesGoOn();
    }

    private static void values() {
        Doc.says("Evaluation", "To evaluate is a step each time, also of what a part is: a NUMBER, a LAMBDA, NIL, CONS:"
                + " a value;");
        number("5", 1, 0, "5");
        function("(\\ x " + STUCK_ONE + ")", 1, 0);
        list("nil", 1, 0, "nil");
        list("(: 1 nil)", 3, 2, "(: 1 nil)");
        Doc.says("Evaluation", "for head and tail cells are made, as for arguments.");
        list("(: 1 2)", 3, 2, "(: 1 2)");
        list("(let x 5 (: x x))", 3, 1, "(: 5 5)");
        list("(let x 5 (: x nil))", 4, 2, "(: 5 nil)");
        list("(let x 5 (: 6 x))", 4, 2, "(: 6 5)");
        list("(: nil nil)", 3, 2, "(: nil nil)");
        list("(: (\\ x x) (\\ x x))", 3, 2, "(: fn fn)");
        new Hall().is(0, "5").is(3, "(: G0 G0)").run(3, 1000, LIST).steps(4).cells(2).prints("(: 5 5)").live(2);
        number("(match (: " + STUCK_ONE + " " + LOOP_ONE + ") 1 h t 2)", 3, 2, "2");
    }

    private static void cells() {
        Doc.says("Evaluation", "What a variable is bound to is a cell; a definition has one, too.");
        number("(let x (c0 5) (+ x x))", 6, 1, "10").entered(0, 1);
        new Hall().is(0, "(c0 5)").is(3, "(+ G0 G0)").run(3, 9, NUMBER).steps(5).cells(0).entered(0, 1).prints("10");
        Doc.says("Evaluation", "A cell has something that is still to be evaluated, or its value.");
        number("(let x " + STUCK_ONE + " 5)", 2, 1, "5");
        number("(let x (c0 5) (let y (c1 x) (+ (+ y x) y)))", 11, 2, "15").entered(0, 1).entered(1, 1);
        Doc.says("Evaluation", "A VARIABLE or a GLOBAL: the value of its cell, if it has one;");
        number("(let x 5 (+ x (+ x x)))", 7, 1, "15");
        number("(rec x (: 1 x) (match x 0 a b (match b 0 c d c)))", 8, 2, "1");
        new Hall().is(0, "5").is(3, "(+ G0 (+ G0 G0))").run(3, 9, NUMBER).steps(6).prints("15");
        Doc.says("Evaluation", "a LOOP, if this is being evaluated;");
        ends(LOOP_ONE, LOOP, 3, 1);
        ends("(rec x (+ 1 x) x)", LOOP, 5, 1);
        ends("(rec x (c0 x) (: 1 x))", LOOP, 5, 2).entered(0, 1);
        ends("G3", LOOP, 1, 0);
        ends("(+ 1 G3)", LOOP, 3, 0);
        new Hall().is(0, "G7").is(7, "G0").run(0, 9, LOOP).steps(2).run(7, 9, LOOP).steps(2);
        new Hall().is(0, "G7").is(7, "G0").is(3, "(+ 1 G7)").run(3, 9, LOOP).steps(5);
        ends("(rec x (let y x y) x)", LOOP, 5, 2);
        number("(rec f (\\ n (test n (@ f (- n 1)) 7)) (@ f 2))", 22, 4, "7");
        list("(rec x (: 1 x) x)", 4, 2, ones(10, "(: ? ?)"));
        Doc.says("Evaluation", "otherwise it is evaluated, and the cell has the value then.");
        number("(let x (+ 1 2) (* x x))", 7, 1, "9");
        list("(let x (c0 (: 1 nil)) (: x x))", 6, 3, "(: (: 1 nil) (: 1 nil))").entered(0, 1);
        Doc.says("Evaluation", "A GLOBAL that is not defined is STUCK.");
        for (int i = 0; i < 8; i++) {
            ends(i == 3 ? "(+ 1 G4)" : "(+ 1 G" + i + ")", STUCK, 3, 0);
        }
        number("(@ (\\ x 5) G7)", 3, 1, "5");
        function("(\\ x G7)", 1, 0);
        ends("(: 1 G7)", STUCK, 3, 2);
    }

    private static void applications() {
        Doc.says("Evaluation", "APPLY: the function; what is none is STUCK;");
        ends("(@ 1 (c0 2))", STUCK, 2, 0).entered(0, 0);
        ends("(@ nil 1)", STUCK, 2, 0);
        ends("(@ (: 1 2) 1)", STUCK, 2, 2);
        ends("(@ G7 1)", STUCK, 2, 0);
        ends("(@ (+ 1 2) 1)", STUCK, 4, 0);
        ends("(@ " + LOOP_ONE + " " + STUCK_ONE + ")", LOOP, 4, 1);
        ends("(let f nil (@ f 1))", STUCK, 4, 1);
        ends("(@ (\\ x x) 1 2)", STUCK, 5, 1);
        Doc.says("Evaluation", "a cell is made for the argument, then the body.");
        number("(@ (\\ x 5) " + STUCK_ONE + ")", 3, 1, "5");
        number("(@ (\\ x (+ x x)) (c0 5))", 7, 1, "10").entered(0, 1);
        number("(@ (\\ x (\\ y y)) 1 2)", 6, 2, "2");
        number("(let y 5 (@ (\\ x (+ x y)) (+ y 1)))", 10, 2, "11");
        Doc.says("Evaluation", "For an argument that is a VARIABLE its cell is taken, none is made.");
        number("(let y (c0 5) (@ (\\ x (+ x y)) y))", 8, 1, "10").entered(0, 1);
        number("(let y 5 (@ (\\ x x) (c0 y)))", 7, 2, "5");
        new Hall().is(0, "5").is(3, "(@ (\\ x x) G0)").run(3, 99, NUMBER).steps(5).cells(1);
        function("(let y 5 (@ (\\ x (\\ z x)) y))", 4, 1).live(1);
    }

    private static void lets() {
        Doc.says("Evaluation", "LET and LETREC: a cell is made for the value, also if that is a VARIABLE, then the"
                + " body.");
        number("(let x 5 6)", 2, 1, "6");
        number("(rec x 5 6)", 2, 1, "6");
        number("(let x 5 (let y x y))", 5, 2, "5");
        number("(let x 5 (rec y x y))", 5, 2, "5");
        number("(let x " + LOOP_ONE + " 6)", 2, 1, "6");
        ends("(rec x " + STUCK_ONE + " x)", STUCK, 4, 1);
        Doc.says("Evaluation", "FORCE: the value, a cell with it, then the body.");
        forced("(let x (c0 5) (+ x x))", 1).run(3, 99, NUMBER).steps(6).cells(1).entered(0, 1).prints("10")
                .runTold(3, 99, NUMBER).steps(6).cells(1).prints("10");
        forced("(let x 1 (let y x (+ y y)))", 2).run(3, 99, NUMBER).steps(7).cells(2).prints("2");
        forced("(let x 1 (let x (+ x 1) x))", 2).run(3, 99, NUMBER).steps(7).cells(2).prints("2");
        forced("(let x (c0 5) (test 1 x x))", 1).run(3, 1, TOO_FAR).cells(0).goOn(1, TOO_FAR).cells(0).entered(0, 1)
                .goOn(1, TOO_FAR).steps(3).cells(1).goOn(1, TOO_FAR).goOn(1, TOO_FAR).goOn(1, NUMBER).steps(6).cells(1);
        forced("(let x " + STUCK_ONE + " (+ " + LOOP_ONE + " x))", 1).run(3, 99, STUCK).steps(3).cells(0)
                .runTold(3, 99, LOOP).steps(5).cells(2);
        forced("(let x " + LOOP_ONE + " (+ " + STUCK_ONE + " x))", 1).run(3, 99, LOOP).runTold(3, 99, STUCK);
        forced("(let x (: 1 2) (match x 3 a b (\\ y x)))", 1).run(3, 99, FUNCTION).steps(5).cells(3).live(3);
    }

    private static Hall forced(String text, int forces) {
        return new Hall().is(3, text).pass(Hall.STRICT, forces);
    }

    private static void primitives() {
        Doc.says("Evaluation", "PRIMITIVE: the first, then the second one;");
        new Hall().is(3, "(+ (c0 1) (c1 2))").run(3, 1, TOO_FAR).entered(0, 0).goOn(1, TOO_FAR).entered(0, 1)
                .entered(1, 0)
                .goOn(1, TOO_FAR).entered(1, 0).goOn(1, TOO_FAR).entered(1, 1).goOn(1, NUMBER).steps(5);
        ends("(- " + STUCK_ONE + " " + LOOP_ONE + ")", STUCK, 3, 0);
        ends("(- " + LOOP_ONE + " " + STUCK_ONE + ")", LOOP, 4, 1);
        Doc.says("Evaluation", "behind both STUCK, unless both are numbers;");
        for (String sign : new String[] {"+", "-", "*", "<", "="}) {
            ends("(" + sign + " nil (c0 1))", STUCK, 4, 0).entered(0, 1);
            ends("(" + sign + " 1 nil)", STUCK, 3, 0);
            ends("(" + sign + " nil nil)", STUCK, 3, 0);
            ends("(" + sign + " (\\ x x) 1)", STUCK, 3, 0);
            ends("(" + sign + " 1 (\\ x x))", STUCK, 3, 0);
            ends("(" + sign + " (: 1 2) 1)", STUCK, 3, 2);
            ends("(" + sign + " 1 (: 1 2))", STUCK, 3, 2);
            ends("(" + sign + " nil " + LOOP_ONE + ")", LOOP, 5, 1);
            ends("(" + sign + " " + STUCK_ONE + " (c0 1))", STUCK, 3, 0).entered(0, 0);
        }
        Doc.says("Evaluation", "longs, told with overflow; 1 for what is so, 0 otherwise.");
        Doc.says("Nodes", "PRIMITIVE of a sign, 0 adds, 1 takes away, 2 multiplies, 3 is less, 4 is the same, and two"
                + " nodes.");
        for (String[] sum : SUMS) {
            number(sum[0], 3, 0, sum[1]);
        }
    }

    private static void choices() {
        Doc.says("Evaluation", "MATCH: the list; STUCK, if it is none;");
        ends("(match 0 1 h t 2)", STUCK, 2, 0);
        ends("(match (\\ x x) 1 h t 2)", STUCK, 2, 0);
        ends("(match " + LOOP_ONE + " 1 h t 2)", LOOP, 4, 1);
        ends("(match G7 1 h t 2)", STUCK, 2, 0);
        Doc.says("Evaluation", "STUCK, if it is none; then what is to be done. TEST: the number;");
        number("(match nil 5 h t " + STUCK_ONE + ")", 3, 0, "5");
        number("(match (: 5 6) " + STUCK_ONE + " h t h)", 4, 2, "5");
        number("(match (: 5 6) " + STUCK_ONE + " h t t)", 4, 2, "6");
        number("(match (: (c0 5) (c1 6)) 1 h t (+ t t))", 7, 2, "12").entered(0, 0).entered(1, 1);
        number("(let x (c0 5) (match (: x x) 1 h t (+ h (+ t x))))", 10, 1, "15").entered(0, 1);
        Doc.says("Evaluation", "TEST: the number; STUCK, if it is none;");
        ends("(test nil 1 2)", STUCK, 2, 0);
        ends("(test (: 1 2) 1 2)", STUCK, 2, 2);
        ends("(test (\\ x x) 1 2)", STUCK, 2, 0);
        ends("(test " + LOOP_ONE + " 1 2)", LOOP, 4, 1);
        Doc.says("Evaluation", "then what is to be done. CENTRE");
        for (String so : new String[] {"1", "-1", "4294967296", "9223372036854775807", "-9223372036854775808"}) {
            number("(test " + so + " 5 " + STUCK_ONE + ")", 3, 0, "5");
        }
        number("(test 0 " + STUCK_ONE + " 6)", 3, 0, "6");
        number("(test (* 4294967296 4294967296) " + STUCK_ONE + " 6)", 5, 0, "6");
        Doc.says("Evaluation", "CENTRE: it is entered once more; then the node.");
        for (int centre = 0; centre < 6; centre++) {
            Hall hall = number("(c" + centre + " (c" + centre + " 5))", 3, 0, "5");
            for (int i = 0; i < 6; i++) {
                hall.entered(i, i == centre ? 2 : 0);
            }
        }
        ends("(c3 " + STUCK_ONE + ")", STUCK, 3, 0).entered(3, 1);
        new Hall().is(3, "(c3 5)").run(3, 1, TOO_FAR).entered(3, 1).steps(1);
        number("(let f (\\ x (c2 x)) (+ (@ f 1) (@ f 2)))", 13, 3, "3").entered(2, 2);
    }

    private static void begins() {
        Doc.says("Evaluation", "A run evaluates a definition, its cell without a step of its own, with no cell having a"
                + " value at first;");
        new Hall().is(7, "5").run(7, 1, NUMBER).steps(1).cells(0);
        Hall hall = new Hall().is(0, "(c0 5)").is(7, "(+ G0 G0)");
        for (int i = 0; i < 3; i++) {
            hall.run(7, 99, NUMBER).steps(5).entered(0, 1).prints("10").run(0, 99, NUMBER).steps(2).entered(0, 1);
        }
        hall.run(0, 1, TOO_FAR).run(7, 99, NUMBER).steps(5).run(7, 4, TOO_FAR).run(7, 99, NUMBER).steps(5);
        new Hall().is(0, "(: 1 G0)").run(0, 99, LIST).steps(3).cells(2).prints(ones(10, "(: ? ?)"));
    }

    private static String ones(int heads, String end) {
        return "(: 1 ".repeat(heads) + end + ")".repeat(heads);
    }

    private static void twenty() {
        Doc.says("Evaluation", "then, if it gives CONS, the head of it, and what that gives in the same way, then the"
                + " tail, and so on, until 20 heads and tails were evaluated so (each as what a VARIABLE is bound to,"
                + " but without a step of its own).");
        for (int heads = 1; heads <= 10; heads++) {
            list(ones(heads, "nil"), 1 + 2 * heads, 2 * heads, ones(heads, "nil")).live(2 * heads);
            list(ones(heads, "2"), 1 + 2 * heads, 2 * heads, ones(heads, "2"));
        }
        list(ones(11, "nil"), 21, 22, ones(10, "(: ? ?)")).live(22);
        list(ones(15, "nil"), 21, 22, ones(10, "(: ? ?)"));
        list("(: " + ones(9, "nil") + " nil)", 21, 20, "(: " + ones(9, "nil") + " nil)");
        list("(: " + ones(9, "5") + " (: 6 nil))", 21, 22, "(: " + ones(9, "5") + " (: ? ?))");
        list("(: " + ones(10, "nil") + " 6)", 21, 22, "(: " + ones(10, "?") + " ?)");
        list(ones(9, "(: (c0 2) (c1 (: (c2 3) (c3 4))))"), 23, 22, ones(9, "(: 2 (: ? ?))")).entered(0, 1).entered(1, 1)
                .entered(2, 0).entered(3, 0);
        list(ones(10, "(: " + STUCK_ONE + " " + LOOP_ONE + ")"), 21, 22, ones(10, "(: ? ?)"));
        ends(ones(9, "(: 2 " + STUCK_ONE + ")"), STUCK, 22, 20);
        ends(ones(9, "(: 2 " + LOOP_ONE + ")"), LOOP, 23, 21);
        list("(: " + ones(9, "7") + " (: " + STUCK_ONE + " 1))", 21, 22, "(: " + ones(9, "7") + " (: ? ?))");
        list("(: (: (: 1 2) (: 3 4)) (: 5 6))", 11, 10, "(: (: (: 1 2) (: 3 4)) (: 5 6))");
        list("(let x (c0 (: 1 2)) (: x (: x x)))", 7, 4, "(: (: 1 2) (: (: 1 2) (: 1 2)))").entered(0, 1);
        list("(rec x (: x x) x)", 3, 1, "(: ".repeat(21) + "? ?)" + " ?)".repeat(20));
        Doc.says("Evaluation", "It ends as a NUMBER, a FUNCTION, a LIST, STUCK, or a LOOP;");
        number("5", 1, 0, "5");
        function("(\\ x x)", 1, 0);
        list("nil", 1, 0, "nil");
        list("(: (\\ x x) 5)", 3, 2, "(: fn 5)");
        ends(STUCK_ONE, STUCK, 2, 0);
        ends(LOOP_ONE, LOOP, 3, 1);
        Doc.says("Evaluation", "what comes of a head or tail that is STUCK or a LOOP is so for the whole.");
        ends("(: " + STUCK_ONE + " 1)", STUCK, 3, 2);
        ends("(: 1 " + STUCK_ONE + ")", STUCK, 4, 2);
        ends("(: " + LOOP_ONE + " 1)", LOOP, 4, 3);
        ends("(: 1 " + LOOP_ONE + ")", LOOP, 5, 3);
        ends("(: " + STUCK_ONE + " " + LOOP_ONE + ")", STUCK, 3, 2);
        ends("(: " + LOOP_ONE + " " + STUCK_ONE + ")", LOOP, 4, 3);
        ends("(: (: 1 " + LOOP_ONE + ") " + STUCK_ONE + ")", LOOP, 6, 5);
        ends("(: 1 (: 2 (: 3 G7)))", STUCK, 7, 6);
        ends("(: (+ 1 nil) 1)", STUCK, 4, 2);
    }

    private static void behindOneThatBroke() {
        Doc.says("Evaluation", "what comes of a head or tail that is STUCK or a LOOP is so for the whole.");
        Hall hall = new Hall().is(0, "(: " + STUCK_ONE + " (: 1 2))").is(1, "(: " + LOOP_ONE + " (: 1 2))")
                .is(2, "(: (: (: 1 2) 3) 4)").is(3, "(: 5 6)").is(4, "7");
        for (int broken = 0; broken < 2; broken++) {
            hall.run(broken, 99, broken == 0 ? STUCK : LOOP).run(3, 99, LIST).prints("(: 5 6)").steps(3).cells(2)
                    .live(2);
            hall.run(broken, 99, broken == 0 ? STUCK : LOOP).run(4, 99, NUMBER).prints("7").steps(1).cells(0).live(0);
        }
        for (int steps = 1; steps < 7; steps++) {
            hall.run(2, steps, TOO_FAR).run(3, 99, LIST).prints("(: 5 6)").run(2, steps, TOO_FAR).run(4, 9, NUMBER)
                    .prints("7").run(2, steps, TOO_FAR).goOn(99, LIST).prints("(: (: (: 1 2) 3) 4)");
        }
    }

    private static void tooFar() {
        Doc.says("Evaluation", "It is TOO_FAR when the steps that it was given are done, and one more would come;");
        String[] texts = {"5", "(+ 1 2)", "(\\ x x)", "(: 1 (: 2 nil))", "(let x (+ 1 2) (: x (: x x)))", STUCK_ONE,
                LOOP_ONE,
            "(: 1 " + STUCK_ONE + ")", "(@ (\\ x (c0 (+ x x))) (c1 4))", "(rec x (: x x) x)", "(: 1 G7)", "(+ nil 1)",
            "(match (: 1 2) 3 h t (+ h t))", "(test (- 1 1) 2 (: 3 4))"};
        int[] outcomes = {NUMBER, NUMBER, FUNCTION, LIST, LIST, STUCK, LOOP, STUCK, NUMBER, LIST, STUCK, STUCK,
                NUMBER, LIST};
        int[] steps = {1, 3, 1, 5, 6, 2, 3, 4, 8, 3, 3, 3, 7, 7};
        for (int i = 0; i < texts.length; i++) {
            Hall hall = new Hall().is(3, texts[i]);
            for (int given = 1; given < steps[i]; given++) {
                hall.run(3, given, TOO_FAR).steps(given).refusesResult();
            }
            hall.run(3, steps[i], outcomes[i]).steps(steps[i]).refusesGoOn();
            hall.run(3, steps[i] + 1, outcomes[i]).steps(steps[i]).refusesGoOn();
        }
        Doc.says("Evaluation", "then one can go on with it.");
        for (int i = 0; i < texts.length; i++) {
            for (int given = 1; given < steps[i]; given++) {
                Hall hall = new Hall().is(3, texts[i]).run(3, 1000, outcomes[i]);
                int cells = hall.hall.cellsMade();
                hall.run(3, given, TOO_FAR).goOn(steps[i] - given, outcomes[i]).steps(steps[i]).cells(cells)
                        .refusesGoOn();
                hall.run(3, given, TOO_FAR).goOn(1000, outcomes[i]).steps(steps[i]).cells(cells);
            }
        }
    }

    private static void prints() {
        Doc.says("Evaluation", "The print of a run that ended as NUMBER, FUNCTION or LIST is a long p, told with"
                + " overflow: at first 7;");
        prints("(: 1 (: 2 (: 3 (: 4 (: 5 (: 6 nil))))))", 7, 4, 1, 1, 4, 1, 2, 4, 1, 3, 4, 1, 4, 4, 1, 5, 4, 1, 6, 3);
        Doc.says("Evaluation", "each of these makes it 31 times p and a number, together: a number 1 and it;");
        prints("0", 7, 1, 0);
        prints("-1", 7, 1, -1);
        prints("9223372036854775807", 7, 1, Long.MAX_VALUE);
        prints("-9223372036854775808", 7, 1, Long.MIN_VALUE);
        Doc.says("Evaluation", "a function 2;");
        prints("(\\ x x)", 7, 2);
        Doc.says("Evaluation", "NIL 3;");
        prints("nil", 7, 3);
        Doc.says("Evaluation", "CONS 4, its head, and its tail;");
        prints("(: 1 (\\ x x))", 7, 4, 1, 1, 2);
        prints("(: (: 1 2) 3)", 7, 4, 4, 1, 1, 1, 2, 1, 3);
        prints("(: 1 (: 2 3))", 7, 4, 1, 1, 4, 1, 2, 1, 3);
        Doc.says("Evaluation", "a head or tail that was not evaluated as one of the 20 is 5, whatever its cell has.");
        list("(let x (c0 9) (test x " + ones(10, "(: x x)") + " 1))", 26, 21, ones(10, "(: ? ?)")).entered(0, 1);
        list("(let x 9 " + "(: x ".repeat(11) + "x" + ")".repeat(12), 13, 11,
                "(: 9 ".repeat(10) + "(: ? ?)" + ")".repeat(10));
        list("(let x nil (: " + ones(10, "x") + " x))", 22, 21, "(: " + ones(10, "?") + " ?)");
    }

    private static void prints(String text, long... due) {
        SpinelessHall h = new Hall().is(3, text).run(3, 1000, due[1] == 1 ? NUMBER : due[1] == 2 ? FUNCTION : LIST)
                .hall;
        Check.gives(Doc.sentence() + " | " + text, Check.fold(due), h::print);
    }

    static void all() {
        values();
        cells();
        applications();
        lets();
        primitives();
        choices();
        begins();
        twenty();
        behindOneThatBroke();
        tooFar();
        prints();
    }
}
