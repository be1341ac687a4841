import java.util.ArrayDeque;
import java.util.ArrayList;
import java.util.Arrays;
import java.util.Collections;
import java.util.Deque;
import java.util.HashMap;
import java.util.HashSet;
import java.util.IdentityHashMap;
import java.util.LinkedHashSet;
import java.util.List;
import java.util.Map;
import java.util.Set;

/**
 * The document once more, in another form: terms are objects, passes and evaluation are recursive, and a run
 * that is gone on with is run anew from its beginning. What it answers is compared with the class.
 */
final class Model {
    enum Kind {
        NUMBER, VARIABLE, GLOBAL, LAMBDA, APPLY, LET, LETREC, FORCE, PRIMITIVE, NIL, CONS, MATCH, TEST, CENTRE
    }

    /** A variable of a term; two are the same only if they are one object. */
    static final class Name {
    }

    /** A term whose names are still numbers, or whose names are objects. */
    static final class Term {
        final Kind kind;
        final long number;
        final Object name;
        final Object other;
        final List<Term> parts;
        final int size;

        Term(Kind kind, long number, Object name, Object other, Term... parts) {
            this.kind = kind;
            this.number = number;
            this.name = name;
            this.other = other;
            this.parts = List.of(parts);
            int sum = 1;
            for (Term part : parts) {
                sum += part.size;
            }
            this.size = sum;
        }

        Term with(Term... newParts) {
            return new Term(kind, number, name, other, newParts);
        }

        Term part(int i) {
            return parts.get(i);
        }

        boolean isLet() {
            return kind == Kind.LET || kind == Kind.LETREC || kind == Kind.FORCE;
        }
    }

    private final List<Term> nodes = new ArrayList<>();
    private final Term[] told = new Term[8];
    private Term[] now = new Term[8];
    private final List<int[]> rules = new ArrayList<>();

    // ---- nodes

    private Term node(int i) {
        if (i < 0 || i >= nodes.size()) {
            throw new IndexOutOfBoundsException();
        }
        return nodes.get(i);
    }

    private static void range(int value, int bound) {
        if (value < 0 || value >= bound) {
            throw new IllegalArgumentException();
        }
    }

    private int keep(Term term) {
        if (nodes.size() == 120 || term.size > 80) {
            throw new IllegalStateException();
        }
        nodes.add(term);
        return nodes.size() - 1;
    }

    int number(long number) {
        return keep(new Term(Kind.NUMBER, number, null, null));
    }

    int variable(int name) {
        range(name, 26);
        return keep(new Term(Kind.VARIABLE, 0, name, null));
    }

    int global(int definition) {
        range(definition, 8);
        return keep(new Term(Kind.GLOBAL, definition, null, null));
    }

    int lambda(int name, int body) {
        Term inner = node(body);
        range(name, 26);
        return keep(new Term(Kind.LAMBDA, 0, name, null, inner));
    }

    int apply(int function, int argument) {
        return keep(new Term(Kind.APPLY, 0, null, null, node(function), node(argument)));
    }

    int let(int name, int value, int body, boolean isRecursive) {
        Term first = node(value);
        Term second = node(body);
        range(name, 26);
        return keep(new Term(isRecursive ? Kind.LETREC : Kind.LET, 0, name, null, first, second));
    }

    int primitive(int sign, int first, int second) {
        Term a = node(first);
        Term b = node(second);
        range(sign, 5);
        return keep(new Term(Kind.PRIMITIVE, sign, null, null, a, b));
    }

    int nil() {
        return keep(new Term(Kind.NIL, 0, null, null));
    }

    int cons(int head, int tail) {
        return keep(new Term(Kind.CONS, 0, null, null, node(head), node(tail)));
    }

    int match(int list, int ifNil, int names, int ifCons) {
        Term a = node(list);
        Term b = node(ifNil);
        Term c = node(ifCons);
        range(names, 26 * 26);
        if (names / 26 == names % 26) {
            throw new IllegalArgumentException();
        }
        return keep(new Term(Kind.MATCH, 0, names / 26, names % 26, a, b, c));
    }

    int test(int number, int ifSo, int ifNot) {
        return keep(new Term(Kind.TEST, 0, null, null, node(number), node(ifSo), node(ifNot)));
    }

    int centre(int centre, int node) {
        Term inner = node(node);
        range(centre, 6);
        return keep(new Term(Kind.CENTRE, centre, null, null, inner));
    }

    // ---- definitions

    private static Map<Object, Name> and(Map<Object, Name> scope, Object name, Name variable) {
        Map<Object, Name> inner = new HashMap<>(scope);
        inner.put(name, variable);
        return inner;
    }

    private static Term resolve(Term t, Map<Object, Name> scope) {
        switch (t.kind) {
            case VARIABLE:
                if (scope.get(t.name) == null) {
                    throw new IllegalStateException();
                }
                return new Term(t.kind, 0, scope.get(t.name), null);
            case LAMBDA: {
                Name x = new Name();
                return new Term(t.kind, 0, x, null, resolve(t.part(0), and(scope, t.name, x)));
            }
            case LET:
            case LETREC: {
                Name x = new Name();
                Map<Object, Name> inner = and(scope, t.name, x);
                Term value = resolve(t.part(0), t.kind == Kind.LET ? scope : inner);
                return new Term(t.kind, 0, x, null, value, resolve(t.part(1), inner));
            }
            case MATCH: {
                Name x = new Name();
                Name y = new Name();
                Map<Object, Name> inner = and(and(scope, t.name, x), t.other, y);
                return new Term(t.kind, 0, x, y, resolve(t.part(0), scope), resolve(t.part(1), scope),
                        resolve(t.part(2), inner));
            }
            default: {
                Term[] parts = new Term[t.parts.size()];
                for (int i = 0; i < parts.length; i++) {
                    parts[i] = resolve(t.part(i), scope);
                }
                return t.with(parts);
            }
        }
    }

    int define(int definition, int node) {
        Term term = node(node);
        range(definition, 8);
        Term core = resolve(term, new HashMap<>());
        told[definition] = core;
        now[definition] = core;
        return core.size;
    }

    int rule(int phase, int outer, int inner, int result) {
        range(phase, 3);
        range(outer, 8);
        range(inner, 8);
        range(result, 8);
        if (rules.size() == 10) {
            throw new IllegalStateException();
        }
        rules.add(new int[] {phase, outer, inner, result});
        return rules.size();
    }

    int reset() {
        now = told.clone();
        int count = 0;
        for (Term t : told) {
            count += t == null ? 0 : 1;
        }
        return count;
    }

    private Term defined(int definition) {
        if (definition < 0 || definition > 7 || now[definition] == null) {
            throw new IndexOutOfBoundsException();
        }
        return now[definition];
    }

    int size(int definition) {
        return defined(definition).size;
    }

    long core(int definition) {
        long[] p = {9};
        Map<Object, Integer> order = new IdentityHashMap<>();
        printCore(defined(definition), p, order);
        return p[0];
    }

    private static void add(long[] p, long number) {
        p[0] = 31 * p[0] + number;
    }

    private static void printCore(Term t, long[] p, Map<Object, Integer> order) {
        add(p, t.kind.ordinal() + 1);
        switch (t.kind) {
            case NUMBER:
            case GLOBAL:
            case PRIMITIVE:
            case CENTRE:
                add(p, t.number);
                break;
            case VARIABLE:
                add(p, order.get(t.name));
                break;
            case LAMBDA:
            case LETREC:
                order.put(t.name, order.size());
                break;
            default:
                break;
        }
        for (int i = 0; i < t.parts.size(); i++) {
            if (i == 1 && (t.kind == Kind.LET || t.kind == Kind.FORCE)) {
                order.put(t.name, order.size());
            }
            if (i == 2 && t.kind == Kind.MATCH) {
                order.put(t.name, order.size());
                order.put(t.other, order.size());
            }
            printCore(t.part(i), p, order);
        }
    }

    // ---- needs

    private static List<Object> parametersOf(Term t) {
        List<Object> names = new ArrayList<>();
        Term inner = t;
        while (inner != null && inner.kind == Kind.LAMBDA && names.size() < 4) {
            names.add(inner.name);
            inner = inner.part(0);
        }
        return names;
    }

    private static Term bodyOf(Term t) {
        Term inner = t;
        for (int i = parametersOf(t).size(); i > 0; i--) {
            inner = inner.part(0);
        }
        return inner;
    }

    int parameters(int definition) {
        return parametersOf(defined(definition)).size();
    }

    private boolean[][] allNeeds() {
        boolean[][] needs = new boolean[8][4];
        for (int d = 0; d < 8; d++) {
            Arrays.fill(needs[d], 0, parametersOf(now[d]).size(), true);
        }
        while (true) {
            boolean[][] anew = new boolean[8][4];
            for (int d = 0; d < 8; d++) {
                List<Object> names = parametersOf(now[d]);
                Set<Object> needed = now[d] == null ? Set.of() : needed(bodyOf(now[d]), needs);
                for (int i = 0; i < names.size(); i++) {
                    anew[d][i] = needed.contains(names.get(i));
                }
            }
            if (Arrays.deepEquals(anew, needs)) {
                return needs;
            }
            needs = anew;
        }
    }

    private Set<Object> needed(Term t, boolean[][] needs) {
        Set<Object> set = new HashSet<>();
        switch (t.kind) {
            case VARIABLE:
                set.add(t.name);
                break;
            case APPLY: {
                set.addAll(needed(t.part(0), needs));
                List<Term> arguments = new ArrayList<>();
                Term function = t;
                while (function.kind == Kind.APPLY) {
                    arguments.add(0, function.part(1));
                    function = function.part(0);
                }
                if (function.kind == Kind.GLOBAL) {
                    int d = (int) function.number;
                    int count = parametersOf(now[d]).size();
                    for (int i = 0; i < count && arguments.size() >= count; i++) {
                        if (needs[d][i]) {
                            set.addAll(needed(arguments.get(i), needs));
                        }
                    }
                }
                break;
            }
            case LET:
                set.addAll(needed(t.part(1), needs));
                if (set.contains(t.name)) {
                    set.addAll(needed(t.part(0), needs));
                }
                break;
            case LETREC:
                set.addAll(needed(t.part(1), needs));
                break;
            case FORCE:
            case PRIMITIVE:
                set.addAll(needed(t.part(0), needs));
                set.addAll(needed(t.part(1), needs));
                break;
            case MATCH:
            case TEST:
                set.addAll(needed(t.part(1), needs));
                set.retainAll(needed(t.part(2), needs));
                set.addAll(needed(t.part(0), needs));
                break;
            case CENTRE:
                set.addAll(needed(t.part(0), needs));
                break;
            default:
                break;
        }
        return set;
    }

    private Object parameter(int definition, int parameter) {
        List<Object> names = parametersOf(defined(definition));
        if (parameter < 0 || parameter >= names.size()) {
            throw new IndexOutOfBoundsException();
        }
        return names.get(parameter);
    }

    boolean needs(int definition, int parameter) {
        parameter(definition, parameter);
        return allNeeds()[definition][parameter];
    }

    boolean isAbsent(int definition, int parameter) {
        return count(bodyOf(defined(definition)), parameter(definition, parameter)) == 0;
    }

    // ---- passes

    private static int count(Term t, Object name) {
        int sum = t.kind == Kind.VARIABLE && t.name == name ? 1 : 0;
        for (Term part : t.parts) {
            sum += count(part, name);
        }
        return sum;
    }

    private static boolean isUnderLambda(Term t, Object name) {
        if (t.kind == Kind.LAMBDA) {
            return count(t, name) > 0;
        }
        for (Term part : t.parts) {
            if (isUnderLambda(part, name)) {
                return true;
            }
        }
        return false;
    }

    private static boolean hasGlobal(Term t) {
        boolean has = t.kind == Kind.GLOBAL;
        for (Term part : t.parts) {
            has |= hasGlobal(part);
        }
        return has;
    }

    private static Term fresh(Term t, Map<Object, Object> renamed) {
        Object name = t.name;
        Object other = t.other;
        if (t.kind == Kind.VARIABLE) {
            name = renamed.getOrDefault(name, name);
        } else if (name != null) {
            renamed.put(t.name, name = new Name());
        }
        if (other != null) {
            renamed.put(t.other, other = new Name());
        }
        Term[] parts = new Term[t.parts.size()];
        for (int i = 0; i < parts.length; i++) {
            parts[i] = fresh(t.part(i), renamed);
        }
        return new Term(t.kind, t.number, name, other, parts);
    }

    private static Term put(Term t, Object name, Term value) {
        if (t.kind == Kind.VARIABLE) {
            return t.name == name ? fresh(value, new IdentityHashMap<>()) : t;
        }
        Term[] parts = new Term[t.parts.size()];
        for (int i = 0; i < parts.length; i++) {
            parts[i] = put(t.part(i), name, value);
        }
        return t.with(parts);
    }

    private int changed;

    int pass(int pass) {
        range(pass, 8);
        changed = 0;
        boolean[][] needs = allNeeds();
        Term[] next = new Term[8];
        for (int d = 0; d < 8; d++) {
            next[d] = now[d] == null ? null : go(now[d], pass, needs);
        }
        now = next;
        return changed;
    }

    private Term go(Term t, int pass, boolean[][] needs) {
        Term[] parts = new Term[t.parts.size()];
        for (int i = 0; i < parts.length; i++) {
            parts[i] = go(t.part(i), pass, needs);
        }
        Term done = t.with(parts);
        Term made = change(done, pass, needs);
        if (made != null) {
            changed++;
            done = made;
        }
        if (done.size > 150) {
            throw new IllegalStateException();
        }
        return done;
    }

    private Term change(Term t, int pass, boolean[][] needs) {
        switch (pass) {
            case 0:
                return simplify(t);
            case 1:
                return floatIn(t);
            case 2:
                return floatOut(t);
            case 3: {
                if (t.kind != Kind.LET || t.part(1).kind != Kind.LAMBDA) {
                    return null;
                }
                Kind value = t.part(0).kind;
                boolean isSo = value == Kind.NUMBER || value == Kind.VARIABLE || value == Kind.LAMBDA;
                return isSo ? t.part(1).with(t.with(t.part(0), t.part(1).part(0))) : null;
            }
            case 4: {
                boolean isSo = t.kind == Kind.LET && needed(t.part(1), needs).contains(t.name);
                return isSo ? new Term(Kind.FORCE, 0, t.name, null, t.part(0), t.part(1)) : null;
            }
            default:
                return useRule(t, pass - 5);
        }
    }

    private Term useRule(Term t, int phase) {
        if (t.kind != Kind.APPLY || t.part(0).kind != Kind.GLOBAL) {
            return null;
        }
        Term inner = t.part(1);
        if (inner.kind != Kind.APPLY || inner.part(0).kind != Kind.GLOBAL) {
            return null;
        }
        for (int[] rule : rules) {
            if (rule[0] == phase && rule[1] == t.part(0).number && rule[2] == inner.part(0).number) {
                return t.with(new Term(Kind.GLOBAL, rule[3], null, null), inner.part(1));
            }
        }
        return null;
    }

    private static Term floatIn(Term t) {
        if (t.kind != Kind.LET) {
            return null;
        }
        Term body = t.part(1);
        if (body.kind != Kind.MATCH && body.kind != Kind.TEST || count(body.part(0), t.name) > 0) {
            return null;
        }
        boolean isIn1 = count(body.part(1), t.name) > 0;
        boolean isIn2 = count(body.part(2), t.name) > 0;
        if (isIn1 == isIn2) {
            return null;
        }
        Term one = isIn1 ? t.with(t.part(0), body.part(1)) : body.part(1);
        Term two = isIn2 ? t.with(t.part(0), body.part(2)) : body.part(2);
        return body.with(body.part(0), one, two);
    }

    private static Term floatOut(Term t) {
        if (t.kind != Kind.LAMBDA || t.part(0).kind != Kind.LET) {
            return null;
        }
        Term let = t.part(0);
        switch (let.part(0).kind) {
            case NUMBER:
            case VARIABLE:
            case GLOBAL:
            case LAMBDA:
                return null;
            default:
                break;
        }
        return count(let.part(0), t.name) > 0 ? null : let.with(let.part(0), t.with(let.part(1)));
    }

    private static boolean isNumber(Term t) {
        return t.kind == Kind.NUMBER;
    }

    private Term simplify(Term t) {
        Term a = t.parts.isEmpty() ? null : t.part(0);
        if (t.kind == Kind.APPLY && a.kind == Kind.LAMBDA) {
            return new Term(Kind.LET, 0, a.name, null, t.part(1), a.part(0));
        }
        if (t.kind == Kind.APPLY && a.isLet()) {
            return a.with(a.part(0), t.with(a.part(1), t.part(1)));
        }
        if (t.kind == Kind.LET) {
            int times = count(t.part(1), t.name);
            if (times == 0) {
                return t.part(1);
            }
            boolean isLeaf = isNumber(a) || a.kind == Kind.VARIABLE || a.kind == Kind.GLOBAL;
            boolean isOnce = times == 1 && !isUnderLambda(t.part(1), t.name);
            boolean isSmall = a.kind == Kind.LAMBDA && a.size <= 6;
            return isLeaf || isOnce || isSmall ? put(t.part(1), t.name, a) : null;
        }
        if (t.kind == Kind.MATCH && a.kind == Kind.NIL) {
            return t.part(1);
        }
        if (t.kind == Kind.MATCH && a.kind == Kind.CONS) {
            Term inner = new Term(Kind.LET, 0, t.other, null, a.part(1), t.part(2));
            return new Term(Kind.LET, 0, t.name, null, a.part(0), inner);
        }
        if ((t.kind == Kind.MATCH || t.kind == Kind.TEST) && a.isLet()) {
            return a.with(a.part(0), t.with(a.part(1), t.part(1), t.part(2)));
        }
        if (t.kind == Kind.TEST && isNumber(a)) {
            return a.number != 0 ? t.part(1) : t.part(2);
        }
        if (t.kind == Kind.PRIMITIVE && isNumber(a) && isNumber(t.part(1))) {
            return new Term(Kind.NUMBER, calculate((int) t.number, a.number, t.part(1).number), null, null);
        }
        if (t.kind == Kind.APPLY && a.kind == Kind.GLOBAL) {
            Term core = now[(int) a.number];
            if (core != null && core.kind == Kind.LAMBDA && core.size <= 8 && !hasGlobal(core)) {
                return t.with(fresh(core, new IdentityHashMap<>()), t.part(1));
            }
        }
        return null;
    }

    private static long calculate(int sign, long a, long b) {
        long[] all = {a + b, a - b, a * b, a < b ? 1 : 0, a == b ? 1 : 0};
        return all[sign];
    }

    // ---- runs

    /** How a run stops early. */
    static final class Stop extends RuntimeException {
        private static final long serialVersionUID = 1;
        final int outcome;

        Stop(int outcome) {
            super(null, null, false, false);
            this.outcome = outcome;
        }
    }

    static final class Value {
        final Kind kind;
        final long number;
        final Term function;
        final Map<Object, Cell> scope;
        final Cell head;
        final Cell tail;

        Value(Kind kind, long number, Term function, Map<Object, Cell> scope, Cell head, Cell tail) {
            this.kind = kind;
            this.number = number;
            this.function = function;
            this.scope = scope;
            this.head = head;
            this.tail = tail;
        }
    }

    static final class Cell {
        Term term;
        Map<Object, Cell> scope;
        Value value;
        boolean isBusy;
        boolean isOfDefinition;

        Cell(Term term, Map<Object, Cell> scope) {
            this.term = term;
            this.scope = scope;
        }
    }

    private Term[] program = new Term[8];
    private int started = -1;
    private int given;
    private int outcome = -1;
    private int steps;
    private int made;
    private int[] entered = new int[6];
    private Cell[] globals = new Cell[8];
    private int shown;
    private final long[] print = new long[1];

    int run(int definition, int more, boolean isTold) {
        defined(definition);
        if (more < 1 || more > 1000) {
            throw new IllegalArgumentException();
        }
        program = isTold ? told.clone() : now.clone();
        started = definition;
        given = more;
        return runAnew();
    }

    int goOn(int more) {
        if (more < 1 || more > 1000) {
            throw new IllegalArgumentException();
        }
        if (outcome != 5 || steps >= 3000) {
            throw new IllegalStateException();
        }
        given += more;
        return runAnew();
    }

    private int runAnew() {
        steps = 0;
        made = 0;
        entered = new int[6];
        shown = 0;
        print[0] = 7;
        for (int d = 0; d < 8; d++) {
            globals[d] = program[d] == null ? null : new Cell(program[d], Map.of());
            if (globals[d] != null) {
                globals[d].isOfDefinition = true;
            }
        }
        try {
            Value value = enter(globals[started]);
            show(value);
            outcome = value.kind == Kind.NUMBER ? 0 : value.kind == Kind.LAMBDA ? 1 : 2;
        } catch (Stop stop) {
            outcome = stop.outcome;
        }
        return outcome;
    }

    private void show(Value value) {
        switch (value.kind) {
            case NUMBER:
                add(print, 1);
                add(print, value.number);
                break;
            case LAMBDA:
                add(print, 2);
                break;
            case NIL:
                add(print, 3);
                break;
            default:
                add(print, 4);
                showPart(value.head);
                showPart(value.tail);
                break;
        }
    }

    private void showPart(Cell cell) {
        if (shown == 20) {
            add(print, 5);
            return;
        }
        shown++;
        show(enter(cell));
    }

    private Value enter(Cell cell) {
        if (cell == null) {
            throw new Stop(3);
        }
        if (cell.value != null) {
            return cell.value;
        }
        if (cell.isBusy) {
            throw new Stop(4);
        }
        cell.isBusy = true;
        cell.value = evaluate(cell.term, cell.scope);
        return cell.value;
    }

    private Cell cell(Term t, Map<Object, Cell> scope) {
        made++;
        return new Cell(t, scope);
    }

    private Cell argument(Term t, Map<Object, Cell> scope) {
        return t.kind == Kind.VARIABLE ? scope.get(t.name) : cell(t, scope);
    }

    private static Map<Object, Cell> bound(Map<Object, Cell> scope, Object name, Cell cell) {
        Map<Object, Cell> inner = new IdentityHashMap<>(scope);
        inner.put(name, cell);
        return inner;
    }

    private Value evaluate(Term t, Map<Object, Cell> scope) {
        if (steps == given) {
            throw new Stop(5);
        }
        steps++;
        switch (t.kind) {
            case NUMBER:
                return new Value(t.kind, t.number, null, null, null, null);
            case LAMBDA:
                return new Value(t.kind, 0, t, scope, null, null);
            case NIL:
                return new Value(t.kind, 0, null, null, null, null);
            case CONS:
                return new Value(t.kind, 0, null, null, argument(t.part(0), scope), argument(t.part(1), scope));
            case VARIABLE:
                return enter(scope.get(t.name));
            case GLOBAL:
                return enter(globals[(int) t.number]);
            case APPLY: {
                Value function = evaluate(t.part(0), scope);
                if (function.kind != Kind.LAMBDA) {
                    throw new Stop(3);
                }
                Cell argument = argument(t.part(1), scope);
                return evaluate(function.function.part(0), bound(function.scope, function.function.name, argument));
            }
            case LET:
                return evaluate(t.part(1), bound(scope, t.name, cell(t.part(0), scope)));
            case LETREC: {
                Cell cell = cell(t.part(0), null);
                cell.scope = bound(scope, t.name, cell);
                return evaluate(t.part(1), cell.scope);
            }
            case FORCE: {
                Value value = evaluate(t.part(0), scope);
                Cell cell = cell(null, null);
                cell.value = value;
                return evaluate(t.part(1), bound(scope, t.name, cell));
            }
            default:
                return evaluateChoice(t, scope);
        }
    }

    private Value evaluateChoice(Term t, Map<Object, Cell> scope) {
        if (t.kind == Kind.CENTRE) {
            entered[(int) t.number]++;
            return evaluate(t.part(0), scope);
        }
        Value first = evaluate(t.part(0), scope);
        if (t.kind == Kind.PRIMITIVE) {
            Value second = evaluate(t.part(1), scope);
            if (first.kind != Kind.NUMBER || second.kind != Kind.NUMBER) {
                throw new Stop(3);
            }
            long result = calculate((int) t.number, first.number, second.number);
            return new Value(Kind.NUMBER, result, null, null, null, null);
        }
        if (t.kind == Kind.TEST) {
            if (first.kind != Kind.NUMBER) {
                throw new Stop(3);
            }
            return evaluate(first.number != 0 ? t.part(1) : t.part(2), scope);
        }
        if (first.kind == Kind.NIL) {
            return evaluate(t.part(1), scope);
        }
        if (first.kind != Kind.CONS) {
            throw new Stop(3);
        }
        return evaluate(t.part(2), bound(bound(scope, t.name, first.head), t.other, first.tail));
    }

    private void needResult() {
        if (outcome < 0 || outcome > 2) {
            throw new IllegalStateException();
        }
    }

    long print() {
        needResult();
        return print[0];
    }

    int steps() {
        return steps;
    }

    int cellsMade() {
        return made;
    }

    int entered(int centre) {
        range(centre, 6);
        return entered[centre];
    }

    int live() {
        needResult();
        Set<Cell> seen = Collections.newSetFromMap(new IdentityHashMap<>());
        Deque<Cell> open = new ArrayDeque<>();
        open.addAll(reachedFrom(globals[started].value));
        int count = 0;
        while (!open.isEmpty()) {
            Cell cell = open.poll();
            if (seen.add(cell)) {
                count += cell.isOfDefinition ? 0 : 1;
                open.addAll(cell.value != null ? reachedFrom(cell.value) : free(cell.term, cell.scope));
            }
        }
        return count;
    }

    private Set<Cell> reachedFrom(Value value) {
        if (value.kind == Kind.CONS) {
            return new LinkedHashSet<>(List.of(value.head, value.tail).stream().distinct().toList());
        }
        return value.kind == Kind.LAMBDA ? free(value.function, value.scope) : Set.of();
    }

    private Set<Cell> free(Term t, Map<Object, Cell> scope) {
        Set<Cell> cells = new LinkedHashSet<>();
        free(t, scope, new ArrayList<>(), cells);
        return cells;
    }

    private void free(Term t, Map<Object, Cell> scope, List<Object> inside, Set<Cell> cells) {
        if (t.kind == Kind.VARIABLE && !inside.contains(t.name)) {
            cells.add(scope.get(t.name));
        }
        if (t.kind == Kind.GLOBAL && globals[(int) t.number] != null) {
            cells.add(globals[(int) t.number]);
        }
        List<Object> more = new ArrayList<>(inside);
        if (t.kind != Kind.VARIABLE) {
            more.add(t.name);
            more.add(t.other);
        }
        for (Term part : t.parts) {
            free(part, scope, more, cells);
        }
    }
}
