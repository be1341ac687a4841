import java.util.HashMap;
import java.util.Map;

/** One object with short words for what is asked of it; terms are written as Expr tells. */
final class Hall {
    static final int SIMPLIFY = 0, FLOAT_IN = 1, FLOAT_OUT = 2, ARITY = 3, STRICT = 4, RULES = 5;
    static final int NUMBER = 0, FUNCTION = 1, LIST = 2, STUCK = 3, LOOP = 4, TOO_FAR = 5;

    // Later calls may answer anything.
    private static final int MOST_CALLS = 512;

    final SpinelessHall hall = new SpinelessHall();
    private final Map<String, Integer> made = new HashMap<>();
    private int asked;

    int node(String text) {
        return Expr.of(text).make(hall, made);
    }

    private String count(String call) {
        asked++;
        if (asked + made.size() > MOST_CALLS) {
            Check.same(Doc.sentence() + " | " + call + " comes behind the last call", asked + made.size(), MOST_CALLS);
        }
        return Doc.sentence() + " | " + call;
    }

    private void gives(String call, long due, Check.Call given) {
        Check.gives(count(call), due, given);
    }

    private void refuses(String call, String exception, Check.Call refused) {
        Check.refuses(count(call), exception, refused);
    }

    // ---- definitions

    /** Defines; the size and the core are those of the term. */
    Hall is(int definition, String text) {
        int node = node(text);
        gives("define " + text, Expr.of(text).size(), () -> hall.define(definition, node));
        return core(definition, text);
    }

    Hall isNot(int definition, String text, String exception) {
        int node = node(text);
        refuses("define " + text, exception, () -> hall.define(definition, node));
        return this;
    }

    Hall core(int definition, String text) {
        Expr due = Expr.of(text);
        gives("core of G" + definition + ", due " + text, due.corePrint(), () -> hall.core(definition));
        gives("size of G" + definition + ", due " + text, due.size(), () -> hall.size(definition));
        return this;
    }

    Hall rule(int due, int phase, int outer, int inner, int result) {
        gives("rule", due, () -> hall.rule(phase, outer, inner, result));
        return this;
    }

    Hall pass(int pass, int changed) {
        gives("pass " + pass, changed, () -> hall.pass(pass));
        return this;
    }

    Hall refusesPass(int pass) {
        refuses("pass " + pass, Check.STATE, () -> hall.pass(pass));
        return this;
    }

    Hall reset(int due) {
        gives("reset", due, hall::reset);
        return this;
    }

    /** A 1 or a 0 for each parameter, in their order: all that it has. */
    Hall needs(int definition, String due) {
        gives("parameters of G" + definition, due.length(), () -> hall.parameters(definition));
        for (int i = 0; i < due.length(); i++) {
            int parameter = i;
            gives("needs of G" + definition + ", parameter " + i, due.charAt(i) - '0',
                    () -> Check.bit(hall.needs(definition, parameter)));
        }
        return this;
    }

    Hall absent(int definition, String due) {
        gives("parameters of G" + definition, due.length(), () -> hall.parameters(definition));
        for (int i = 0; i < due.length(); i++) {
            int parameter = i;
            gives("isAbsent of G" + definition + ", parameter " + i, due.charAt(i) - '0',
                    () -> Check.bit(hall.isAbsent(definition, parameter)));
        }
        return this;
    }

    // ---- runs

    Hall run(int definition, int steps, int outcome) {
        gives("run of G" + definition + ", " + steps, outcome, () -> hall.run(definition, steps, false));
        return this;
    }

    Hall runTold(int definition, int steps, int outcome) {
        gives("run of G" + definition + " as told, " + steps, outcome, () -> hall.run(definition, steps, true));
        return this;
    }

    Hall goOn(int steps, int outcome) {
        gives("goOn " + steps, outcome, () -> hall.goOn(steps));
        return this;
    }

    Hall refusesGoOn() {
        refuses("goOn 1", Check.STATE, () -> hall.goOn(1));
        refuses("goOn 1000", Check.STATE, () -> hall.goOn(1000));
        return this;
    }

    Hall steps(int due) {
        gives("steps", due, hall::steps);
        return this;
    }

    Hall cells(int due) {
        gives("cellsMade", due, hall::cellsMade);
        return this;
    }

    Hall entered(int centre, int due) {
        gives("entered " + centre, due, () -> hall.entered(centre));
        return this;
    }

    Hall live(int due) {
        gives("live", due, hall::live);
        return this;
    }

    Hall prints(String due) {
        gives("print, due " + due, Expr.of(due).runPrint(), hall::print);
        return this;
    }

    Hall refusesResult() {
        refuses("print", Check.STATE, hall::print);
        refuses("live", Check.STATE, hall::live);
        return this;
    }
}
