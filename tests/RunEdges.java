/** The edges of runs and of what they tell: promises 23 to 29. */
final class RunEdges {
    private static final int NUMBER = Hall.NUMBER, FUNCTION = Hall.FUNCTION, LIST = Hall.LIST, STUCK = Hall.STUCK,
            LOOP = Hall.LOOP, TOO_FAR = Hall.TOO_FAR;
    private static final int[] WRONG_STEPS = {0, -1, -1000, 1001, 1002, 2000, Integer.MAX_VALUE, Integer.MIN_VALUE};
    private static final String FOREVER = "(\\ x (@ G1 x))";

    /** A definition 0 that counts down, and G7: 7 times n and 7 steps, and one for each CENTRE ahead. */
    private static Hall counts(int n, int centres) {
        String call = "(c0 ".repeat(centres) + "(@ G0 " + n + ")" + ")".repeat(centres);
        return new Hall().is(0, "(\\ n (test n (@ G0 (- n 1)) 0))").is(7, call);
    }

    /** Does so many steps of a run that has no end. */
    private static Hall forever(int... steps) {
        Hall hall = new Hall().is(1, FOREVER).is(0, "(@ G1 1)").run(0, steps[0], TOO_FAR);
        for (int i = 1; i < steps.length; i++) {
            hall.goOn(steps[i], TOO_FAR);
        }
        return hall;
    }

    private static void run() {
        Doc.says("Promise 23", "steps: 1 to 1000");
        counts(141, 5).run(7, 1000, NUMBER).steps(999).entered(0, 5);
        counts(141, 6).run(7, 1000, NUMBER).steps(1000).entered(0, 6);
        counts(141, 7).run(7, 1000, TOO_FAR).steps(1000).goOn(1, NUMBER).steps(1001).entered(0, 7);
        new Hall().is(3, "5").run(3, 1, NUMBER).steps(1).is(3, "(c0 5)").run(3, 1, TOO_FAR).steps(1).run(3, 2, NUMBER);
        Doc.says("Promise 23", "Throws IllegalArgumentException if steps is out of range");
        SpinelessHall h = new Hall().is(3, "5").hall;
        for (int wrong : WRONG_STEPS) {
            Check.refuses(Doc.sentence() + " | " + wrong, Check.ARGUMENT, () -> h.run(3, wrong, false));
            Check.refuses(Doc.sentence() + " | " + wrong, Check.ARGUMENT, () -> h.run(3, wrong, true));
        }
        Check.gives("there was no run", 0, h::steps);
        Doc.says("Promise 23", "Runs a definition, with the cores as they are now, or as they were told.");
        Hall hall = new Hall().is(0, "(+ 1 2)").is(7, "(+ G0 (+ 1 1))").run(7, 99, NUMBER).steps(8)
                .pass(Hall.SIMPLIFY, 2);
        hall.run(7, 99, NUMBER).steps(4).runTold(7, 99, NUMBER).steps(8).run(7, 99, NUMBER).steps(4).reset(2);
        hall.run(7, 99, NUMBER).steps(8).prints("5");
        Doc.says("Promise 23", "Returns how it ended: NUMBER to TOO_FAR.");
        String[] texts = {"5", "(\\ x x)", "nil", "(@ 1 1)", "G5", "(@ 1 1)"};
        for (int outcome = 0; outcome < 6; outcome++) {
            new Hall().is(5, texts[outcome]).run(5, outcome == TOO_FAR ? 1 : 9, outcome)
                    .runTold(5, outcome == TOO_FAR ? 1 : 9, outcome);
        }
    }

    private static void goOn() {
        Doc.says("Promise 24", "steps: 1 to 1000, more");
        forever(1, 1, 1000).steps(1002);
        counts(284, 5).run(7, 1000, TOO_FAR).goOn(1000, NUMBER).steps(2000).entered(0, 5);
        counts(284, 6).run(7, 1000, TOO_FAR).goOn(1000, TOO_FAR).steps(2000).goOn(1, NUMBER).steps(2001);
        new Hall().is(3, "(c0 5)").run(3, 1, TOO_FAR).goOn(1, NUMBER).steps(2);
        new Hall().is(3, "(c0 (c0 5))").run(3, 1, TOO_FAR).goOn(1, TOO_FAR).steps(2).goOn(1, NUMBER).steps(3);
        Doc.says("Promise 24", "Throws IllegalArgumentException if steps is out of range");
        Hall far = forever(1);
        for (int wrong : WRONG_STEPS) {
            Check.refuses(Doc.sentence() + " | " + wrong, Check.ARGUMENT, () -> far.hall.goOn(wrong));
        }
        far.steps(1).goOn(1, TOO_FAR).steps(2);
        Doc.says("Promise 24", "Returns how it ended then.");
        String[] texts = {"(c0 5)", "(c0 (\\ x x))", "(c0 nil)", "(c0 (@ 1 1))", "(c0 G5)", "(c0 (c0 5))"};
        int[] steps = {1, 1, 1, 2, 1, 1};
        for (int outcome = 0; outcome < 6; outcome++) {
            Hall hall = new Hall().is(5, texts[outcome]).run(5, 1, TOO_FAR).goOn(steps[outcome], outcome);
            if (outcome != TOO_FAR) {
                hall.refusesGoOn();
            }
        }
    }

    private static void goOnRefused() {
        Doc.says("Promise 24", "Throws IllegalStateException if the last run was not TOO_FAR");
        String[] texts = {"5", "(\\ x x)", "nil", "(@ 1 1)", "G5"};
        for (int outcome = 0; outcome < 5; outcome++) {
            new Hall().is(5, texts[outcome]).run(5, 9, outcome).refusesGoOn().steps(outcome == STUCK ? 2 : 1);
        }
        new Hall().is(3, "(c0 (c0 5))").run(3, 1, TOO_FAR).run(3, 9, NUMBER).refusesGoOn();
        new Hall().is(3, "(c0 (c0 5))").run(3, 1, TOO_FAR).goOn(9, NUMBER).refusesGoOn().refusesGoOn();
        Doc.says("Promise 24", "or there was none");
        new Hall().refusesGoOn().is(0, "5").refusesGoOn().pass(Hall.SIMPLIFY, 0).reset(1);
        Doc.says("Promise 24", "or 3000 steps or more were done in it");
        forever(1000, 1000, 1000).steps(3000).refusesGoOn().steps(3000);
        forever(1000, 1000, 999).steps(2999).goOn(1, TOO_FAR).steps(3000).refusesGoOn();
        forever(1000, 1000, 999).goOn(2, TOO_FAR).steps(3001).refusesGoOn();
        forever(1000, 1000, 999).goOn(1000, TOO_FAR).steps(3999).refusesGoOn().steps(3999);
        forever(1000, 1000, 500).goOn(1000, TOO_FAR).steps(3500).refusesGoOn();
        forever(1, 1000, 1000, 998).steps(2999).goOn(1, TOO_FAR).refusesGoOn().run(0, 1, TOO_FAR).goOn(1, TOO_FAR);
        counts(427, 4).run(7, 1000, TOO_FAR).goOn(1000, TOO_FAR).goOn(1000, NUMBER).steps(3000).refusesGoOn();
        counts(427, 5).run(7, 1000, TOO_FAR).goOn(1000, TOO_FAR).goOn(1000, TOO_FAR).steps(3000).refusesGoOn();
        counts(427, 5).run(7, 1000, TOO_FAR).goOn(1000, TOO_FAR).goOn(999, TOO_FAR).goOn(2, NUMBER).steps(3001);
        counts(570, 2).run(7, 1000, TOO_FAR).goOn(1000, TOO_FAR).goOn(999, TOO_FAR).goOn(1000, NUMBER).steps(3999)
                .prints("0").entered(0, 2);
        counts(570, 3).run(7, 1000, TOO_FAR).goOn(1000, TOO_FAR).goOn(999, TOO_FAR).goOn(1000, TOO_FAR).steps(3999)
                .refusesGoOn().refusesResult();
    }

    private static void notDoneAgain() {
        Doc.says("Promise 24", "what it has done is not done again.");
        Hall hall = new Hall().is(3, "(let x (c0 (+ 1 2)) (: x (: (c1 x) (: (c2 (+ x x)) nil))))").run(3, 1000, LIST);
        hall.steps(15).cells(6).prints("(: 3 (: 3 (: 6 nil)))").entered(0, 1).entered(1, 1).entered(2, 1).live(6);
        for (int first = 1; first < 15; first++) {
            hall.run(3, first, TOO_FAR);
            for (int done = first; done < 14; done++) {
                hall.goOn(1, TOO_FAR);
            }
            hall.goOn(1, LIST).steps(15).cells(6).entered(0, 1).entered(2, 1).prints("(: 3 (: 3 (: 6 nil)))").live(6);
        }
        Doc.says("Promise 24", "Goes on with the last run, which was TOO_FAR, with the cores as they were when it"
                + " began;");
        Hall old = new Hall().is(0, "(+ G1 G2)").is(1, "(+ 1 2)").run(0, 1, TOO_FAR).is(1, "(+ 5 5)").is(0, "9");
        old.is(2, "7").pass(Hall.SIMPLIFY, 1).goOn(1, TOO_FAR).goOn(99, STUCK).steps(6).run(0, 9, NUMBER).prints("9");
        Hall swept = new Hall().is(0, "(@ G1 (+ 1 2))").is(1, "(\\ x (+ x (c0 x)))").run(0, 3, TOO_FAR);
        for (int pass = 0; pass < 8; pass++) {
            swept.hall.pass(pass);
        }
        swept.goOn(99, NUMBER).steps(10).entered(0, 1).prints("6");
        new Hall().is(0, "(+ 1 2)").pass(Hall.SIMPLIFY, 1).is(1, "(+ G0 1)").runTold(1, 1, TOO_FAR).goOn(99, NUMBER)
                .steps(6)
                .run(1, 1, TOO_FAR).reset(2).goOn(99, NUMBER).steps(4).run(1, 99, NUMBER).steps(6);
    }

    private static void results() {
        Doc.says("Promise 25", "Throws IllegalStateException if it did not end as a NUMBER, FUNCTION or LIST");
        Hall hall = new Hall().is(0, "(@ 1 1)").is(1, "G1").is(2, "(: 1 (@ 1 1))").is(4, "(: 1 nil)").is(5, "(\\ x x)");
        hall.run(0, 1, TOO_FAR).refusesResult().run(0, 9, STUCK).refusesResult().run(1, 9, LOOP).refusesResult();
        hall.run(2, 9, STUCK).refusesResult().run(2, 3, TOO_FAR).refusesResult().run(4, 2, TOO_FAR).refusesResult();
        hall.run(4, 9, LIST).prints("(: 1 nil)").live(2).run(0, 9, STUCK).refusesResult();
        hall.run(5, 9, FUNCTION).prints("fn").live(0).run(1, 9, LOOP).refusesResult();
        hall.is(6, "5").run(6, 9, NUMBER).prints("5").live(0).run(4, 1, TOO_FAR).refusesResult();
        Doc.says("Promise 29", "Throws IllegalStateException if it did not end as a NUMBER, FUNCTION or LIST");
        Check.refuses(Doc.sentence(), Check.STATE, hall.hall::live);
        hall.goOn(9, LIST).prints("(: 1 nil)").live(2);
        Doc.says("Promise 25", "or there was none");
        Check.refuses(Doc.sentence(), Check.STATE, new SpinelessHall()::print);
        Check.refuses(Doc.sentence(), Check.STATE, new Hall().is(0, "5").hall::print);
        Doc.says("Promise 29", "or there was none");
        Check.refuses(Doc.sentence(), Check.STATE, new SpinelessHall()::live);
        Check.refuses(Doc.sentence(), Check.STATE, new Hall().is(0, "5").hall::live);
        Doc.says("Promise 25", "Returns the print of the last run.");
        new Hall().is(0, "5").is(7, "(: 6 7)").run(7, 9, LIST).prints("(: 6 7)").run(0, 9, NUMBER).prints("5")
                .prints("5")
                .is(0, "8").pass(Hall.SIMPLIFY, 0).reset(2).prints("5").run(7, 9, LIST).prints("(: 6 7)");
    }

    private static void counters() {
        Doc.says("Promise 26", "0 if there was none.");
        new Hall().steps(0).is(0, "5").steps(0);
        Doc.says("Promise 27", "0 if there was none.");
        new Hall().cells(0).is(0, "(: 1 2)").cells(0);
        Doc.says("Promise 28", "0 if there was none.");
        for (int centre = 0; centre < 6; centre++) {
            new Hall().entered(centre, 0).is(0, "(c" + centre + " 1)").entered(centre, 0);
        }
        Doc.says("Promise 26", "Returns how many steps the last run did so far;");
        new Hall().is(0, "(c0 (c0 (c0 5)))").run(0, 2, TOO_FAR).steps(2).goOn(1, TOO_FAR).steps(3).goOn(9, NUMBER)
                .steps(4)
                .run(0, 1, TOO_FAR).steps(1).is(1, "(@ 1 1)").run(1, 9, STUCK).steps(2).is(2, "G2").run(2, 9, LOOP)
                        .steps(1);
        Doc.says("Promise 27", "Returns how many cells were made in the last run so far, those of definitions not"
                + " counted;");
        Hall hall = new Hall().is(0, "(let x 1 (let y 2 (: x (: y nil))))").run(0, 1, TOO_FAR).cells(1)
                .goOn(1, TOO_FAR).cells(2);
        hall.goOn(1, TOO_FAR).cells(3).goOn(1, TOO_FAR).cells(3).goOn(1, TOO_FAR).cells(4).goOn(9, LIST).cells(4)
                .live(4);
        hall.is(1, "(+ G2 G3)").is(2, "1").is(3, "2").run(1, 9, NUMBER).cells(0).run(0, 9, LIST).cells(4);
        hall.is(4, "(: 1 (@ 1 1))").run(4, 9, STUCK).cells(2).is(5, "(rec x x x)").run(5, 9, LOOP).cells(1);
        Doc.says("Promise 28", "Returns how often a cost centre was entered in the last run so far;");
        Hall far = new Hall().is(1, "(\\ x (c0 (@ G1 (c5 x))))").is(0, "(@ G1 1)").run(0, 4, TOO_FAR).entered(0, 1);
        far.goOn(1, TOO_FAR).entered(0, 1).goOn(2, TOO_FAR).entered(0, 2).goOn(990, TOO_FAR).entered(0, 332)
                .entered(5, 0);
        far.run(0, 1, TOO_FAR).entered(0, 0).is(2, "(c5 (c0 (@ 1 1)))").run(2, 9, STUCK).entered(0, 1).entered(5, 1);
        for (int centre = 1; centre < 5; centre++) {
            far.entered(centre, 0);
        }
        Doc.says("Promise 28", "centre: 0 to 5");
        far.is(3, "(c0 (c1 (c2 (c3 (c4 (c5 (c5 1)))))))").run(3, 9, NUMBER).entered(0, 1).entered(1, 1).entered(2, 1)
                .entered(3, 1).entered(4, 1).entered(5, 2);
        Doc.says("Promise 28", "Throws IllegalArgumentException if centre is out of range");
        for (int wrong : new int[] {-1, 6, 7, Integer.MAX_VALUE, Integer.MIN_VALUE, -6}) {
            Check.refuses(Doc.sentence() + " | " + wrong, Check.ARGUMENT, () -> far.hall.entered(wrong));
            Check.refuses(Doc.sentence() + " | " + wrong, Check.ARGUMENT, () -> new SpinelessHall().entered(wrong));
        }
    }

    private static void lives(String text, int outcome, int live) {
        new Hall().is(0, "(: 8 9)").is(1, "(: 8 9)").is(3, "(match G0 0 p q (match G1 0 r s " + text + "))")
                .run(3, 1000, outcome).live(live).live(live);
    }

    private static void live() {
        Doc.says("Promise 29", "Returns how many cells can be reached from what the last run gave: those of the list"
                + " and of what is in it, and of functions and of what is still to be evaluated those of the variables"
                + " that occur free in it, and so on;");
        lives("5", NUMBER, 0);
        lives("(let x (: 1 2) (test 1 7 x))", NUMBER, 0);
        lives("nil", LIST, 0);
        lives("(: 1 2)", LIST, 2);
        lives("(: 1 (: 2 nil))", LIST, 4);
        lives("(: (: 1 2) (: 3 4))", LIST, 6);
        lives("(let x 1 (: x x))", LIST, 1);
        lives("(let x 1 (let y (: x x) (: y y)))", LIST, 2);
        lives("(let z 1 (: 1 2))", LIST, 2);
        lives("(rec x (: x x) x)", LIST, 1);
        lives("(: (\\ x x) nil)", LIST, 2);
        lives("(let z 1 (: (\\ x z) nil))", LIST, 3);
        lives("(let z 1 (: nil (\\ x (: z x))))", LIST, 3);
        lives("(\\ x x)", FUNCTION, 0);
        lives("(let x 1 (\\ x x))", FUNCTION, 0);
        lives("(let x 1 (\\ y x))", FUNCTION, 1);
        lives("(let x 1 (\\ y (\\ z (c0 x))))", FUNCTION, 1);
        lives("(let x 1 (\\ y (\\ x x)))", FUNCTION, 0);
        lives("(let x 1 (\\ y (let x 2 x)))", FUNCTION, 0);
        lives("(let x 1 (\\ y (let x x x)))", FUNCTION, 1);
        lives("(let x 1 (\\ y (rec x x x)))", FUNCTION, 0);
        lives("(let x 1 (\\ y (match y 1 x z x)))", FUNCTION, 0);
        lives("(let x 1 (\\ y (match y x x z x)))", FUNCTION, 1);
        lives("(let x 1 (let y 2 (\\ z (+ x y))))", FUNCTION, 2);
        lives("(let x 1 (let y (+ x 1) (\\ z y)))", FUNCTION, 2);
        lives("(let x 1 (let y (c0 x) (test y (\\ z y) 1)))", FUNCTION, 1);
        lives("(let x 1 (let y x (\\ z y)))", FUNCTION, 2);
        lives("(let x 1 (let y (: x (: x x)) (match y 1 a b (\\ z b))))", FUNCTION, 2);
        lives("(let x 1 (let y (: x nil) (match y 1 a b (\\ z b))))", FUNCTION, 1);
        lives("(let x 1 (let y (: x nil) (match y 1 a b (\\ z a))))", FUNCTION, 1);
        lives("(let x 1 (let y (: x nil) (match y 1 a b (\\ z y))))", FUNCTION, 3);
        lives("(let x 1 (let y 2 (let w (\\ z y) (\\ z w))))", FUNCTION, 2);
        lives("(rec x (: 1 x) (\\ z x))", FUNCTION, 1);
        lives("(rec x (: 1 x) (match x 1 a b (\\ z x)))", FUNCTION, 2);
        lives("(rec f (\\ n (@ f n)) f)", FUNCTION, 1);
        lives("(@ (\\ a (\\ b (\\ c b))) 1 2)", FUNCTION, 1);
        lives("(let x 1 (@ (\\ a (\\ b a)) x))", FUNCTION, 1);
        lives("(: 1 ".repeat(15) + "nil" + ")".repeat(15), LIST, 22);
        lives("(let x 1 (let y (+ x 1) " + "(: 1 ".repeat(10) + "(: y y)" + ")".repeat(12), LIST, 22);
        lives("(let x 1 (let y 2 " + "(: 1 ".repeat(10) + "(: (+ x 1) nil)" + ")".repeat(12), LIST, 23);
        new Hall().is(3, "(let x (c0 7) (match (: x nil) 1 a b (let y (: a b) (test a (\\ z y) 1))))")
                .run(3, 99, FUNCTION)
                .live(3);
    }

    private static void liveThroughDefinitions() {
        Doc.says("Promise 29", "cells of definitions are not counted, but gone through.");
        lives("(\\ z G0)", FUNCTION, 2);
        lives("(\\ z G1)", FUNCTION, 2);
        lives("(\\ z (: G0 G1))", FUNCTION, 4);
        lives("(\\ z G3)", FUNCTION, 0);
        lives("(\\ z G2)", FUNCTION, 0);
        lives("(\\ z G7)", FUNCTION, 0);
        lives("(\\ z 0)", FUNCTION, 0);
        lives("(\\ z 1)", FUNCTION, 0);
        lives("(\\ z (c0 (c1 z)))", FUNCTION, 0);
        lives("(\\ z (- z (+ z z)))", FUNCTION, 0);
        lives("(: 0 (: 1 nil))", LIST, 4);
        lives("(: 1 G0)", LIST, 4);
        lives("(let x G0 (\\ z x))", FUNCTION, 3);
        lives("(let x (: 5 6) (\\ z (: G0 x)))", FUNCTION, 3);
        lives("G0", LIST, 2);
        Hall hall = new Hall().is(0, "(: 8 9)").is(1, "(\\ z G0)").is(2, "G1").is(3, "(match G0 0 p q G2)");
        hall.run(3, 99, FUNCTION).live(2).is(4, "(match G0 0 p q (\\ y G2))").run(4, 99, FUNCTION).live(2);
        hall.is(4, "(\\ y G2)").run(4, 99, FUNCTION).live(0).is(5, "G5").is(4, "(\\ y G5)").run(4, 99, FUNCTION)
                .live(0);
        hall.is(4, "(let x 1 (\\ y (: x G4)))").run(4, 99, FUNCTION).live(1);
        new Hall().is(7, "(let x 1 (: x (\\ y x)))").is(6, "(match G7 0 a b b)").run(6, 99, FUNCTION).live(1);
        new Hall().is(7, "(let x 1 (\\ y x))").is(6, "(let f G7 (let g (@ f 1) (+ g 1)))").run(6, 99, NUMBER).live(0);
    }

    /** As many steps as a run can do, with a cell for every other one, nearly all of them reached; again and again. */
    private static void long3999() {
        Doc.says("Promise 29", "Returns how many cells can be reached from what the last run gave");
        String lets = "(let l (: n l) ".repeat(9);
        Hall hall = new Hall().is(0, "(\\ n (\\ l (test n " + lets + "(@ G0 (- n 1) l)" + ")".repeat(9)
                + " (\\ z l))))");
        hall.is(7, "(c0 ".repeat(12) + "(@ G0 221 nil)" + ")".repeat(12));
        hall.run(7, 1000, TOO_FAR).goOn(1000, TOO_FAR).goOn(1000, TOO_FAR).steps(3000).refusesGoOn();
        for (int round = 0; round < 5; round++) {
            // 12 for the CENTREs, 8 until 221 is tested; each turn 9 for the LETs, and 9 until the next number is.
            hall.run(7, 1000, TOO_FAR).goOn(1000, TOO_FAR).goOn(999, TOO_FAR).goOn(1000, FUNCTION);
            hall.steps(12 + 8 + 221 * 18 + 1).steps(3999).cells(2 + 221 * 10).live(1 + 221 * 10).prints("fn");
        }
    }

    /** One that waits for one that waits for another, and so on: 1710 of them. */
    private static void deep() {
        Doc.says("Promise 26", "Returns how many steps the last run did so far;");
        String lets = "(let l l ".repeat(30);
        Hall hall = new Hall().is(0, "(\\ n (\\ l (test n " + lets + "(@ G0 (- n 1) l)" + ")".repeat(30)
                + " (+ l l))))");
        hall.is(7, "(@ G0 57 (c0 5))");
        hall.run(7, 1000, TOO_FAR).goOn(1000, TOO_FAR).goOn(999, TOO_FAR).goOn(1000, NUMBER).prints("10").entered(0, 1);
        // 8 until 57 is tested; each turn 30 and 9; then the sum, the LETs once more, and what they all come to.
        hall.steps(8 + 57 * 39 + 2 + 57 * 30 + 2 + 1).cells(2 + 57 * 31).live(0);
        hall.is(1, "(\\ n (test n (+ 1 (@ G1 (- n 1))) 0))").is(2, "(@ G1 440)").run(2, 1000, TOO_FAR);
        hall.goOn(1000, TOO_FAR).goOn(999, TOO_FAR).goOn(1000, NUMBER).prints("440").steps(7 + 440 * 9);
    }

    /** 511 calls, most of them as long as a call can be, and one more. */
    private static void calls512() {
        Doc.says("What it is", "An object is used for at most 512 calls after it has been made; what later calls answer"
                + " is free.");
        SpinelessHall h = new Hall().is(0, "(@ G1 1)").is(1, "(\\ x (c0 (let y (: x 1) (@ G1 y))))").hall;
        // These were 10 for the nodes, and for each definition it and two that ask of it.
        for (int calls = 10 + 6; calls < 511; calls += 3) {
            Check.gives(Doc.sentence(), TOO_FAR, () -> h.run(0, 1000, true));
            Check.gives(Doc.sentence(), TOO_FAR, () -> h.goOn(1000));
            Check.gives(Doc.sentence(), TOO_FAR, () -> h.goOn(999));
        }
        Check.gives(Doc.sentence() + " | the last one", 2999 / 4, () -> h.entered(0));
    }

    static void all() {
        run();
        goOn();
        goOnRefused();
        notDoneAgain();
        results();
        counters();
        live();
        liveThroughDefinitions();
        long3999();
        deep();
        calls512();
    }
}
