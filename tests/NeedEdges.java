/** The edges of what is needed: "Needs", and promise 21. */
final class NeedEdges {
    /** What the parameters a, b and c of G3 need, if this is in their LAMBDAs. */
    private static void needs(String inside, String due) {
        new Hall().is(3, "(\\ a (\\ b (\\ c " + inside + ")))").needs(3, due);
    }

    /** The same, when G7 is defined. */
    private static void needsWith(String g7, String inside, String due) {
        new Hall().is(7, g7).is(3, "(\\ a (\\ b (\\ c " + inside + ")))").needs(3, due);
    }

    private static void leaves() {
        Doc.says("Needs", "The variables that are needed in a node are sets: of a NUMBER, LAMBDA, NIL, CONS or GLOBAL"
                + " none;");
        needs("0", "000");
        needs("(c0 (\\ x (+ a b)))", "000");
        needs("nil", "000");
        needs("(: a b)", "000");
        needs("(: (+ a a) (+ b b))", "000");
        needsWith("(\\ x x)", "G7", "000");
        needs("G3", "000");
        Doc.says("Needs", "of a VARIABLE it;");
        needs("a", "100");
        needs("b", "010");
        needs("c", "001");
        new Hall().is(3, "(\\ a (\\ a (\\ a a)))").needs(3, "001");
    }

    private static void applications() {
        Doc.says("Needs", "of an APPLY those of the function, and, if it is a GLOBAL with some arguments, of each of"
                + " these for which the definition needs the parameter;");
        needs("(@ a b)", "100");
        needs("(@ a b c)", "100");
        needs("(@ (+ a b) c)", "110");
        needs("(@ (\\ x x) a)", "000");
        needsWith("(\\ x x)", "(@ G7 a)", "100");
        needsWith("(\\ x x)", "(@ G7 (+ a b))", "110");
        needsWith("(\\ x 1)", "(@ G7 a)", "000");
        needsWith("(\\ x x)", "(@ G7 a b)", "100");
        needsWith("(\\ x x)", "(@ G7 a b c)", "100");
        needsWith("(\\ x (\\ y y))", "(@ G7 a b)", "010");
        needsWith("(\\ x (\\ y y))", "(@ G7 a b c)", "010");
        needsWith("(\\ x (\\ y (+ x y)))", "(@ G7 (: a b) c)", "001");
        needsWith("(\\ x (let y x (+ y y)))", "(@ G7 a b c)", "100");
        needsWith("(\\ x (match x 1 y z (+ y z)))", "(@ G7 a b c)", "100");
        needsWith("(let y 1 (+ y y))", "(@ G7 a b)", "000");
        needsWith("(\\ x x)", "(@ (c0 G7) a)", "000");
        needsWith("(\\ x x)", "(@ (let y G7 y) a)", "000");
        needsWith("(\\ x x)", "(@ (test a G7 G7) b)", "100");
        needsWith("(\\ x x)", "(: (@ G7 a) b)", "000");
        needsWith("(\\ x x)", "(@ G7 (@ G7 (@ G7 c)))", "001");
        needsWith("(\\ x x)", "(@ 7 a)", "000");
        needsWith("1", "(@ G7 a)", "000");
        needsWith("(c0 (\\ x x))", "(@ G7 a)", "000");
        needs("(@ G6 a)", "000");
        needs("(@ G6 a b c)", "000");
        new Hall().is(0, "(\\ x x)").is(3, "(\\ a (\\ b (@ a b)))").needs(3, "10").is(3, "(\\ a (\\ b (@ (c0 a) b)))")
                .needs(3, "10").is(3, "(\\ a (@ 0 a))").needs(3, "0").is(3, "(\\ a (@ nil a))").needs(3, "0")
                .is(3, "(\\ a (@ (\\ x x) a))").needs(3, "0").is(3, "(\\ a (@ G0 a))").needs(3, "1");
    }

    private static void fourParameters() {
        Doc.says("Needs", "of each of these for which the definition needs the parameter;");
        String[] names = {"a", "b", "c", "d"};
        for (int mask = 0; mask < 16; mask++) {
            StringBuilder sum = new StringBuilder("1");
            StringBuilder due = new StringBuilder();
            for (int i = 0; i < 4; i++) {
                boolean isIn = (mask >> i & 1) == 1;
                due.append(isIn ? 1 : 0);
                if (isIn) {
                    sum.insert(0, "(+ ").append(' ').append(names[i]).append(')');
                }
            }
            Hall hall = new Hall().is(7, "(\\ a (\\ b (\\ c (\\ d " + sum + "))))").needs(7, due.toString());
            hall.is(3, "(\\ a (\\ b (\\ c (\\ d (@ G7 a b c d)))))").needs(3, due.toString());
            hall.is(3, "(\\ a (\\ b (\\ c (\\ d (@ G7 a b c d 5)))))").needs(3, due.toString());
            hall.is(3, "(\\ a (\\ b (\\ c (\\ d (@ G7 1 2 3 4 (+ a b) c d)))))").needs(3, "0000");
            hall.is(3, "(\\ a (\\ b (\\ c (\\ d (@ G7 a b c)))))").needs(3, "0000");
        }
    }

    private static void fewerArguments() {
        Doc.says("Needs", "one with fewer arguments than parameters needs none of them there.");
        needsWith("(\\ x (\\ y x))", "(@ G7 a)", "000");
        needsWith("(\\ x (\\ y x))", "(@ G7 a b)", "100");
        needsWith("(\\ x (\\ y (\\ z x)))", "(@ G7 a b)", "000");
        needsWith("(\\ x (\\ y (\\ z x)))", "(@ G7 a b c)", "100");
        needsWith("(\\ x (\\ y (\\ z (\\ w x))))", "(@ G7 a b c)", "000");
        needsWith("(\\ x (\\ y (\\ z (\\ w x))))", "(@ G7 a b c 1)", "100");
        needsWith("(\\ x (\\ y (\\ z (\\ w (\\ v x)))))", "(@ G7 a b c 1)", "000");
        needsWith("(\\ x (\\ y (\\ z (\\ w (\\ v x)))))", "(@ G7 a b c 1 2)", "000");
        needsWith("(\\ x (\\ y x))", "(@ G7 (@ G7 a b))", "000");
        needsWith("(\\ x (\\ y x))", "(@ G7 (@ G7 a b) c)", "100");
        needsWith("(\\ x (\\ y x))", "(@ G7 (@ G7 a) c)", "000");
    }

    private static void lets() {
        Doc.says("Needs", "of a LET those of the body, and, if its name is one, those of the value;");
        needs("(let x a (+ x b))", "110");
        needs("(let x a b)", "010");
        needs("(let x a x)", "100");
        needs("(let x a (: x b))", "000");
        needs("(let x a (let y x y))", "100");
        needs("(let x a (let y x b))", "010");
        needs("(let x a (let y (: x x) y))", "000");
        needs("(let x a (rec y x y))", "000");
        needs("(let x a (test b x c))", "010");
        needs("(let x a (test b x (+ c x)))", "110");
        needs("(let x (: a b) x)", "000");
        needs("(let a a a)", "100");
        needs("(let a 1 a)", "000");
        needs("(let a b a)", "010");
        Doc.says("Needs", "of a LETREC those of the body;");
        needs("(rec x a b)", "010");
        needs("(rec x a x)", "000");
        needs("(rec x a (+ x b))", "010");
        needs("(rec a a a)", "000");
        needs("(rec x x c)", "001");
        Doc.says("Needs", "of a FORCE those of both;");
        Hall hall = new Hall().is(1, "(\\ a a)").is(0, "(\\ x (let y (c0 x) (@ G1 y)))").needs(0, "1")
                .pass(Hall.STRICT, 1);
        hall.core(0, "(\\ x (force y (c0 x) (@ G1 y)))").needs(0, "1").is(1, "(\\ a 5)").needs(0, "1").reset(2)
                .needs(0, "0");
        hall.is(1, "(\\ a a)").is(0, "(\\ x (\\ z (let y 5 (+ (@ G1 y) z))))").needs(0, "01").pass(Hall.STRICT, 1)
                .needs(0, "01");
    }

    private static void others() {
        Doc.says("Needs", "of a PRIMITIVE those of both;");
        for (String sign : new String[] {"+", "-", "*", "<", "="}) {
            needs("(" + sign + " a b)", "110");
            needs("(" + sign + " 1 c)", "001");
            needs("(" + sign + " c nil)", "001");
        }
        Doc.says("Needs", "of a MATCH or a TEST those of what is matched or tested, and those that are needed in both"
                + " of what is to be done;");
        needs("(test a b c)", "100");
        needs("(test a b b)", "110");
        needs("(test 1 (+ a b) (+ b c))", "010");
        needs("(test a 1 a)", "100");
        needs("(test 1 a nil)", "000");
        needs("(test 0 1 a)", "000");
        needs("(test (test a b b) c c)", "111");
        needs("(match a b x y c)", "100");
        needs("(match a b x y b)", "110");
        needs("(match nil (+ a b) x y (+ b c))", "010");
        needs("(match a b b y b)", "100");
        needs("(match a b x b b)", "100");
        needs("(match b 1 x y x)", "010");
        needs("(match nil a x y (+ x (+ y a)))", "100");
        Doc.says("Needs", "of a CENTRE those of the node.");
        needs("(c5 a)", "100");
        needs("(c0 (c0 (+ b c)))", "011");
        needs("(c0 (: a b))", "000");
        Doc.says("Needs", "it needs the parameters that are needed in what is in these;");
        new Hall().is(0, "(\\ a a)").needs(0, "1").is(0, "(\\ a (\\ b a))").needs(0, "10");
        new Hall().is(0, "(\\ a (c0 (\\ b a)))").needs(0, "0").is(0, "(c0 (\\ a a))").needs(0, "");
        new Hall().is(0, "(\\ a (\\ b (\\ c (\\ d a))))").needs(0, "1000");
        new Hall().is(0, "(\\ a (\\ b (\\ c (\\ d (\\ e a)))))").needs(0, "0000");
        Doc.says("Promise 21", "Returns whether a definition needs a parameter now.");
        new Hall().is(0, "(\\ a (test 1 a 2))").needs(0, "0").pass(Hall.SIMPLIFY, 1).needs(0, "1").reset(1)
                .needs(0, "0");
    }

    private static void untilNothingChanges() {
        Doc.says("Needs", "At first all definitions are taken to need all their parameters;");
        new Hall().is(0, "(\\ a (@ G0 a))").needs(0, "1");
        new Hall().is(0, "(\\ a (\\ b (@ G0 b a)))").needs(0, "11");
        new Hall().is(0, "(\\ a (\\ b (test a (@ G0 (- a 1) (+ a b)) b)))").needs(0, "11");
        new Hall().is(0, "(\\ a (\\ b (test a (@ G0 (- a 1) (+ a b)) 1)))").needs(0, "10");
        new Hall().is(0, "(\\ a (@ G7 a))").is(7, "(\\ a (@ G0 a))").needs(0, "1").needs(7, "1");
        new Hall().is(0, "(\\ a (@ G0 1))").needs(0, "0");
        Doc.says("Needs", "the needs of all are found anew from that, together, again and again, until nothing"
                + " changes.");
        new Hall().is(0, "(\\ a (@ G7 a))").is(7, "(\\ a (test 1 1 (@ G0 a)))").needs(0, "0").needs(7, "0");
        new Hall().is(7, "(\\ a (@ G0 a))").is(0, "(\\ a (test 1 1 (@ G7 a)))").needs(0, "0").needs(7, "0");
        for (int needed = 0; needed < 4; needed++) {
            longestWay(needed);
        }
        new Hall().is(0, "(\\ a (@ G1 a))").is(1, "(\\ a a)").needs(0, "1").is(1, "(\\ a 5)").needs(0, "0")
                .is(1, "(\\ a a)")
                .needs(0, "1");
    }

    /** Each round takes one parameter away, of up to 32; what is needed at last stops that. */
    private static void longestWay(int needed) {
        Hall hall = new Hall();
        for (int i = 0; i < 7; i++) {
            hall.is(i, "(\\ a (\\ b (\\ c (\\ d (@ G" + (i + 1) + " a b c d)))))");
        }
        hall.is(7, "(\\ a (\\ b (\\ c (\\ d (@ G0 b c d 5)))))");
        for (int i = 0; i < 8; i++) {
            hall.needs(i, "0000");
        }
        hall.is(7, "(\\ a (\\ b (\\ c (\\ d (+ " + (char) ('a' + needed) + " (@ G0 b c d 5))))))");
        for (int i = 0; i < 8; i++) {
            hall.needs(i, "0".repeat(needed) + "1".repeat(4 - needed));
        }
    }

    static void all() {
        leaves();
        applications();
        fourParameters();
        fewerArguments();
        lets();
        others();
        untilNothingChanges();
    }
}
