/** A lazy machine for a small core language, and the passes that make its programs better. */
public final class SpinelessHall {
    public static final int NONE = -1;
    public static final int NUMBER = 0, FUNCTION = 1, LIST = 2, STUCK = 3, LOOP = 4, TOO_FAR = 5;
    public static final int SIMPLIFY = 0, FLOAT_IN = 1, FLOAT_OUT = 2, ARITY = 3, STRICT = 4;

    private static final int FIRST_RULES = 5;
    private static final int PASSES = 8;
    private static final int NAMES = 26;
    private static final int DEFINITIONS = 8;
    private static final int SIGNS = 5;
    private static final int CENTRES = 6;
    private static final int PHASES = 3;
    private static final int MOST_NODES = 120;
    private static final int MOST_WEIGHT = 80;
    private static final int MOST_RULES = 10;
    private static final int MOST_PARAMETERS = 4;
    private static final int MOST_STEPS = 1000;
    private static final int STEPS_TO_GO_ON = 3000;

    // A core is at most this long: what is defined is no longer than a weight, and a pass refuses more.
    private static final int MOST_SIZE = 150;

    // The kinds of nodes have the numbers that the print of a core gives them.
    private static final int A_NUMBER = 1, A_VARIABLE = 2, A_GLOBAL = 3, A_LAMBDA = 4, AN_APPLY = 5;
    private static final int A_LET = 6, A_LETREC = 7, A_FORCE = 8, A_PRIMITIVE = 9, A_NIL = 10;
    private static final int A_CONS = 11, A_MATCH = 12, A_TEST = 13, A_CENTRE = 14;
    private static final int[] PARTS = {0, 0, 0, 0, 1, 2, 2, 2, 2, 2, 0, 2, 3, 3, 1};

    private final Nodes nodes = new Nodes();
    private final Binder binder = new Binder(nodes);
    private final Code told = new Code(DEFINITIONS * MOST_SIZE);
    private final Code now = new Code(DEFINITIONS * MOST_SIZE);
    private final Demand demand = new Demand(now);
    private final Passes passes = new Passes(now, demand);
    private final Machine machine = new Machine();
    private final Reach reach = new Reach(machine);

    public SpinelessHall() {
    }

    // ---- nodes; each returns its number

    public int number(long number) throws IllegalStateException {
        return makeNode(A_NUMBER, NONE, NONE, number, NONE, NONE, NONE);
    }

    public int variable(int name) throws IllegalArgumentException, IllegalStateException {
        refuseOutside(name, NAMES);
        return makeNode(A_VARIABLE, name, NONE, 0, NONE, NONE, NONE);
    }

    public int global(int definition) throws IllegalArgumentException, IllegalStateException {
        refuseOutside(definition, DEFINITIONS);
        return makeNode(A_GLOBAL, NONE, NONE, definition, NONE, NONE, NONE);
    }

    public int lambda(int name, int body)
            throws IndexOutOfBoundsException, IllegalArgumentException, IllegalStateException {
        refuseUnmade(body);
        refuseOutside(name, NAMES);
        return makeNode(A_LAMBDA, name, NONE, 0, body, NONE, NONE);
    }

    public int apply(int function, int argument) throws IndexOutOfBoundsException, IllegalStateException {
        refuseUnmade(function);
        refuseUnmade(argument);
        return makeNode(AN_APPLY, NONE, NONE, 0, function, argument, NONE);
    }

    public int let(int name, int value, int body, boolean isRecursive)
            throws IndexOutOfBoundsException, IllegalArgumentException, IllegalStateException {
        refuseUnmade(value);
        refuseUnmade(body);
        refuseOutside(name, NAMES);
        return makeNode(isRecursive ? A_LETREC : A_LET, name, NONE, 0, value, body, NONE);
    }

    public int primitive(int sign, int first, int second)
            throws IndexOutOfBoundsException, IllegalArgumentException, IllegalStateException {
        refuseUnmade(first);
        refuseUnmade(second);
        refuseOutside(sign, SIGNS);
        return makeNode(A_PRIMITIVE, NONE, NONE, sign, first, second, NONE);
    }

    public int nil() throws IllegalStateException {
        return makeNode(A_NIL, NONE, NONE, 0, NONE, NONE, NONE);
    }

    public int cons(int head, int tail) throws IndexOutOfBoundsException, IllegalStateException {
        refuseUnmade(head);
        refuseUnmade(tail);
        return makeNode(A_CONS, NONE, NONE, 0, head, tail, NONE);
    }

    public int match(int list, int ifNil, int names, int ifCons)
            throws IndexOutOfBoundsException, IllegalArgumentException, IllegalStateException {
        refuseUnmade(list);
        refuseUnmade(ifNil);
        refuseUnmade(ifCons);
        refuseOutside(names, NAMES * NAMES);
        int head = names / NAMES;
        int tail = names % NAMES;
        if (head == tail) {
            throw new IllegalArgumentException("the names for the head and the tail are alike");
        }
        return makeNode(A_MATCH, head, tail, 0, list, ifNil, ifCons);
    }

    public int test(int number, int ifSo, int ifNot) throws IndexOutOfBoundsException, IllegalStateException {
        refuseUnmade(number);
        refuseUnmade(ifSo);
        refuseUnmade(ifNot);
        return makeNode(A_TEST, NONE, NONE, 0, number, ifSo, ifNot);
    }

    public int centre(int centre, int node)
            throws IndexOutOfBoundsException, IllegalArgumentException, IllegalStateException {
        refuseUnmade(node);
        refuseOutside(centre, CENTRES);
        return makeNode(A_CENTRE, NONE, NONE, centre, node, NONE, NONE);
    }

    // ---- definitions, passes

    public int define(int definition, int node)
            throws IndexOutOfBoundsException, IllegalArgumentException, IllegalStateException {
        refuseUnmade(node);
        refuseOutside(definition, DEFINITIONS);
        if (!binder.bindAll(node)) {
            throw new IllegalStateException("a name is not bound");
        }
        int root = rootOf(definition);
        told.takeInOrder(root, binder.row, 0);
        now.takeInOrder(root, binder.row, 0);
        return told.sizeAt(root);
    }

    public int rule(int phase, int outer, int inner, int result)
            throws IllegalArgumentException, IllegalStateException {
        refuseOutside(phase, PHASES);
        refuseOutside(outer, DEFINITIONS);
        refuseOutside(inner, DEFINITIONS);
        refuseOutside(result, DEFINITIONS);
        if (passes.ruleCount >= MOST_RULES) {
            throw new IllegalStateException("there are as many rules as there may be");
        }
        return passes.addRule(phase, outer, inner, result);
    }

    public int pass(int pass) throws IllegalArgumentException, IllegalStateException {
        refuseOutside(pass, PASSES);
        passes.begin();
        if (pass == STRICT) {
            demand.find();
        }
        for (int definition = 0; definition < DEFINITIONS; definition++) {
            if (!passes.goThrough(definition, pass)) {
                throw new IllegalStateException("a node would be too large");
            }
        }
        return passes.finish();
    }

    public int reset() {
        int count = 0;
        for (int definition = 0; definition < DEFINITIONS; definition++) {
            if (isDefined(definition)) {
                now.takeTree(rootOf(definition), told, rootOf(definition));
                count++;
            }
        }
        return count;
    }

    public int size(int definition) throws IndexOutOfBoundsException {
        refuseUndefined(definition);
        return now.sizeAt(rootOf(definition));
    }

    public long core(int definition) throws IndexOutOfBoundsException {
        refuseUndefined(definition);
        return now.printAt(rootOf(definition));
    }

    public int parameters(int definition) throws IndexOutOfBoundsException {
        refuseUndefined(definition);
        return now.parametersAt(rootOf(definition));
    }

    public boolean needs(int definition, int parameter) throws IndexOutOfBoundsException {
        refuseNoParameter(definition, parameter);
        demand.find();
        return demand.isParameterNeeded(definition, parameter);
    }

    public boolean isAbsent(int definition, int parameter) throws IndexOutOfBoundsException {
        refuseNoParameter(definition, parameter);
        int root = rootOf(definition);
        // The lambdas bind first in a core's order, so a parameter's number is its variable's, too.
        return now.occurrences(parameter, root + now.parametersAt(root)) == 0;
    }

    // ---- runs

    public int run(int definition, int steps, boolean isTold)
            throws IndexOutOfBoundsException, IllegalArgumentException {
        refuseUndefined(definition);
        refuseSteps(steps);
        machine.begin(isTold ? told : now, definition);
        return machine.work(steps);
    }

    public int goOn(int steps) throws IllegalArgumentException, IllegalStateException {
        refuseSteps(steps);
        if (machine.outcome != TOO_FAR || machine.steps >= STEPS_TO_GO_ON) {
            throw new IllegalStateException("there is no run that can be gone on with");
        }
        return machine.work(steps);
    }

    public long print() throws IllegalStateException {
        refuseNoResult();
        return machine.show.print;
    }

    public int steps() {
        return machine.steps;
    }

    public int cellsMade() {
        return machine.store.madeCells();
    }

    public int entered(int centre) throws IllegalArgumentException {
        refuseOutside(centre, CENTRES);
        return read(machine.entered, centre);
    }

    public int live() throws IllegalStateException {
        refuseNoResult();
        return reach.countFrom(machine.definition);
    }

    // ---- what is refused

    private void refuseUnmade(int node) {
        if (node < 0 || node >= nodes.count) {
            throw new IndexOutOfBoundsException("there is no such node");
        }
    }

    private void refuseUndefined(int definition) {
        if (!isDefined(definition)) {
            throw new IndexOutOfBoundsException("there is no such definition");
        }
    }

    private void refuseNoParameter(int definition, int parameter) {
        refuseUndefined(definition);
        if (parameter < 0 || parameter >= now.parametersAt(rootOf(definition))) {
            throw new IndexOutOfBoundsException("there is no such parameter");
        }
    }

    private void refuseNoResult() {
        int outcome = machine.outcome;
        if (outcome != NUMBER && outcome != FUNCTION && outcome != LIST) {
            throw new IllegalStateException("no run has given anything");
        }
    }

    private static void refuseOutside(int value, int bound) {
        if (value < 0 || value >= bound) {
            throw new IllegalArgumentException("an argument is out of its range");
        }
    }

    private static void refuseSteps(int steps) {
        if (steps < 1 || steps > MOST_STEPS) {
            throw new IllegalArgumentException("there are too few steps, or too many");
        }
    }

    // ---- helpers

    private int makeNode(int kind, int name, int tailName, long number, int first, int second, int third) {
        int weight = 1 + nodes.weightOf(first) + nodes.weightOf(second) + nodes.weightOf(third);
        if (nodes.count >= MOST_NODES || weight > MOST_WEIGHT) {
            throw new IllegalStateException("there are too many nodes, or the node would be too heavy");
        }
        nodes.addParts(first, second, third);
        return nodes.add(kind, name, tailName, number, weight);
    }

    private boolean isDefined(int definition) {
        return definition >= 0 && definition < DEFINITIONS && told.sizeAt(rootOf(definition)) > 0;
    }

    private static int rootOf(int definition) {
        return definition * MOST_SIZE;
    }

    private static int read(int[] row, int at) {
        return at >= 0 && at < row.length ? row[at] : 0;
    }

    private static void write(int[] row, int at, int value) {
        if (at >= 0 && at < row.length) {
            row[at] = value;
        }
    }

    private static long readLong(long[] row, int at) {
        return at >= 0 && at < row.length ? row[at] : 0;
    }

    private static void writeLong(long[] row, int at, long value) {
        if (at >= 0 && at < row.length) {
            row[at] = value;
        }
    }

    private static long compute(int sign, long first, long second) {
        switch (sign) {
            case 0:
                return first + second;
            case 1:
                return first - second;
            case 2:
                return first * second;
            case 3:
                return first < second ? 1 : 0;
            default:
                return first == second ? 1 : 0;
        }
    }

    /**
     * Trees in rows: each node stands ahead of its parts, and its first part right behind it. Variables
     * are told by numbers, and no two nodes of a tree bind the same one, so trees can be moved freely.
     */
    private static class Code {
        private final int[] kinds;
        // The variable that a node is, or that it binds; of a MATCH that of the head.
        private final int[] names;
        // Of a MATCH the variable of the tail.
        private final int[] tailNames;
        // The number, the definition, the sign, or the centre.
        private final long[] numbers;
        private final int[] sizes;

        Code(int length) {
            int room = length < 0 ? 0 : length;
            kinds = new int[room];
            names = new int[room];
            tailNames = new int[room];
            numbers = new long[room];
            sizes = new int[room];
        }

        int kindAt(int node) {
            return node >= 0 && node < kinds.length ? kinds[node] : 0;
        }

        int nameAt(int node) {
            return node >= 0 && node < names.length ? names[node] : NONE;
        }

        int tailNameAt(int node) {
            return node >= 0 && node < tailNames.length ? tailNames[node] : NONE;
        }

        long numberAt(int node) {
            return node >= 0 && node < numbers.length ? numbers[node] : 0;
        }

        int sizeAt(int node) {
            return node >= 0 && node < sizes.length ? sizes[node] : 0;
        }

        int endOf(int node) {
            return node >= 0 && node < sizes.length ? node + sizes[node] : node;
        }

        int first(int node) {
            return node + 1;
        }

        int second(int node) {
            return endOf(node + 1);
        }

        int third(int node) {
            return endOf(endOf(node + 1));
        }

        boolean isLet(int node) {
            int kind = kindAt(node);
            return kind == A_LET || kind == A_LETREC || kind == A_FORCE;
        }

        boolean isBinder(int node) {
            return nameAt(node) != NONE && kindAt(node) != A_VARIABLE;
        }

        /** Puts a node without parts; one with parts is measured when these have been put, too. */
        void put(int node, int kind, int name, int tailName, long number) {
            boolean hasRoom = node >= 0 && node < kinds.length && node < names.length
                    && node < tailNames.length && node < numbers.length && node < sizes.length;
            if (hasRoom) {
                kinds[node] = kind;
                names[node] = name;
                tailNames[node] = tailName;
                numbers[node] = number;
                sizes[node] = 1;
            }
        }

        void take(int node, Code from, int source) {
            put(node, from.kindAt(source), from.nameAt(source), from.tailNameAt(source), from.numberAt(source));
        }

        void takeTree(int root, Code from, int source) {
            int size = from.sizeAt(source);
            for (int i = 0; i < size; i++) {
                take(root + i, from, source + i);
                write(sizes, root + i, from.sizeAt(source + i));
            }
        }

        /** Finds the size of a node from the sizes of its parts. */
        void measure(int node) {
            int end = first(node);
            int parts = read(PARTS, kindAt(node));
            for (int i = 0; i < parts; i++) {
                end = endOf(end);
            }
            write(sizes, node, end - node);
        }

        void measureAll(int length) {
            for (int node = length - 1; node >= 0; node--) {
                measure(node);
            }
        }

        void rename(int from, int end, int name, int fresh) {
            for (int node = from; node < end; node++) {
                if (nameAt(node) == name) {
                    write(names, node, fresh);
                }
                if (tailNameAt(node) == name) {
                    write(tailNames, node, fresh);
                }
            }
        }

        int occurrences(int variable, int root) {
            int end = endOf(root);
            int count = 0;
            for (int node = root; node < end; node++) {
                if (kindAt(node) == A_VARIABLE && nameAt(node) == variable) {
                    count++;
                }
            }
            return count;
        }

        boolean occursInLambda(int variable, int root) {
            int end = endOf(root);
            for (int node = root; node < end; node++) {
                if (kindAt(node) == A_LAMBDA && occurrences(variable, node) > 0) {
                    return true;
                }
            }
            return false;
        }

        boolean hasGlobals(int root) {
            int end = endOf(root);
            for (int node = root; node < end; node++) {
                if (kindAt(node) == A_GLOBAL) {
                    return true;
                }
            }
            return false;
        }

        /** Takes a tree and numbers its variables in the order in which they are bound. */
        void takeInOrder(int root, Code from, int source) {
            takeTree(root, from, source);
            int end = from.endOf(source);
            for (int node = source; node < end; node++) {
                if (from.isBinder(node)) {
                    int order = from.boundAhead(node, source);
                    takeOrder(root, from, source, from.nameAt(node), order);
                    takeOrder(root, from, source, from.tailNameAt(node), order + 1);
                }
            }
        }

        private void takeOrder(int root, Code from, int source, int name, int order) {
            int size = name == NONE ? 0 : from.sizeAt(source);
            for (int i = 0; i < size; i++) {
                if (from.nameAt(source + i) == name) {
                    write(names, root + i, order);
                }
                if (from.tailNameAt(source + i) == name) {
                    write(tailNames, root + i, order);
                }
            }
        }

        private int boundAhead(int binder, int root) {
            int end = endOf(root);
            int moment = momentOfBinding(binder);
            int count = 0;
            for (int node = root; node < end; node++) {
                if (isBinder(node) && momentOfBinding(node) < moment) {
                    count += kindAt(node) == A_MATCH ? 2 : 1;
                }
            }
            return count;
        }

        // What a node binds ahead of one of its parts comes before what this part binds itself: hence the
        // doubled places, odd for what is bound at a node, even for what is bound ahead of it.
        private int momentOfBinding(int node) {
            switch (kindAt(node)) {
                case A_LET:
                case A_FORCE:
                    return 2 * second(node);
                case A_MATCH:
                    return 2 * third(node);
                default:
                    return 2 * node + 1;
            }
        }

        int parametersAt(int root) {
            int count = 0;
            while (count < MOST_PARAMETERS && kindAt(root + count) == A_LAMBDA) {
                count++;
            }
            return count;
        }

        /** The variables must have been numbered by takeInOrder. */
        long printAt(int root) {
            int end = endOf(root);
            long print = 9;
            for (int node = root; node < end; node++) {
                int kind = kindAt(node);
                print = 31 * print + kind;
                if (kind == A_VARIABLE) {
                    print = 31 * print + nameAt(node);
                } else if (kind == A_NUMBER || kind == A_GLOBAL || kind == A_PRIMITIVE || kind == A_CENTRE) {
                    print = 31 * print + numberAt(node);
                }
            }
            return print;
        }
    }

    /** The nodes as they were made: with names still, and sharing their parts. */
    private static final class Nodes {
        // Sizes are weights here; the parts stand wherever they were made.
        private final Code row = new Code(MOST_NODES);
        private final int[] parts = new int[3 * MOST_NODES];
        private int count;

        int weightOf(int node) {
            return row.sizeAt(node);
        }

        int partOf(int node, int which) {
            return read(parts, 3 * node + which);
        }

        /** Of the node that is added next. */
        void addParts(int first, int second, int third) {
            write(parts, 3 * count, first);
            write(parts, 3 * count + 1, second);
            write(parts, 3 * count + 2, third);
        }

        int add(int kind, int name, int tailName, long number, int weight) {
            int node = count;
            row.put(node, kind, name, tailName, number);
            write(row.sizes, node, weight);
            count++;
            return node;
        }
    }

    /** Makes a tree of a node, with a variable of its own for each name that is bound in it. */
    private static final class Binder {
        private final Nodes nodes;
        private final Code row = new Code(MOST_WEIGHT);
        private final int[] waiting = new int[3 * MOST_WEIGHT];
        private final int[] waitingScopes = new int[3 * MOST_WEIGHT];
        private int waitingCount;
        // A scope is a name, the variable that it stands for, and the scope around it.
        private final int[] names = new int[2 * MOST_WEIGHT];
        private final int[] variables = new int[2 * MOST_WEIGHT];
        private final int[] outers = new int[2 * MOST_WEIGHT];
        private int scopeCount;

        Binder(Nodes nodes) {
            this.nodes = nodes;
        }

        /** Leaves the tree in the row; returns whether all names in it are bound. */
        boolean bindAll(int node) {
            waitingCount = 0;
            scopeCount = 0;
            push(node, NONE);
            int length = 0;
            while (length < MOST_WEIGHT && waitingCount > 0) {
                waitingCount--;
                int next = read(waiting, waitingCount);
                int scope = read(waitingScopes, waitingCount);
                if (!writeNode(length, next, scope)) {
                    return false;
                }
                length++;
            }
            row.measureAll(length);
            return true;
        }

        private boolean writeNode(int at, int node, int scope) {
            int kind = nodes.row.kindAt(node);
            int name = nodes.row.nameAt(node);
            int tailName = nodes.row.tailNameAt(node);
            if (kind == A_VARIABLE) {
                int variable = find(name, scope);
                row.put(at, kind, variable, NONE, 0);
                return variable != NONE;
            }
            int variable = name == NONE ? NONE : 2 * at;
            int tailVariable = tailName == NONE ? NONE : 2 * at + 1;
            row.put(at, kind, variable, tailVariable, nodes.row.numberAt(node));
            int inner = bind(tailName, tailVariable, bind(name, variable, scope));
            for (int part = read(PARTS, kind) - 1; part >= 0; part--) {
                push(nodes.partOf(node, part), isScope(kind, part) ? inner : scope);
            }
            return true;
        }

        private static boolean isScope(int kind, int part) {
            switch (kind) {
                case A_LET:
                    return part == 1;
                case A_MATCH:
                    return part == 2;
                default:
                    return true;
            }
        }

        private void push(int node, int scope) {
            write(waiting, waitingCount, node);
            write(waitingScopes, waitingCount, scope);
            waitingCount++;
        }

        private int bind(int name, int variable, int outer) {
            if (name == NONE) {
                return outer;
            }
            int scope = scopeCount;
            write(names, scope, name);
            write(variables, scope, variable);
            write(outers, scope, outer);
            scopeCount++;
            return scope;
        }

        private int find(int name, int innermost) {
            int scope = innermost;
            for (int turn = 0; turn < 2 * MOST_WEIGHT && scope != NONE; turn++) {
                if (read(names, scope) == name) {
                    return read(variables, scope);
                }
                scope = read(outers, scope);
            }
            return NONE;
        }
    }

    /** What a pass makes of one node. */
    private static final class Draft extends Code {
        // May go beyond the room that there is: then the draft is not whole, and too long.
        private int length;
        private int nextVariable;

        Draft() {
            super(MOST_SIZE);
        }

        void beginCore() {
            // A core has fewer variables than this, numbered from 0.
            nextVariable = MOST_SIZE;
        }

        boolean isTooLong() {
            return length > MOST_SIZE;
        }

        void begin() {
            length = 0;
        }

        /** The node alone, for its parts to follow. */
        void add(int kind, int name, long number) {
            put(length, kind, name, NONE, number);
            length++;
        }

        void copyNode(Code from, int node) {
            take(length, from, node);
            length++;
        }

        void copy(Code from, int root) {
            int end = from.endOf(root);
            for (int node = root; node < end; node++) {
                take(length, from, node);
                length++;
            }
        }

        /** What was put from a place on gets variables of its own for those that it binds. */
        void freshen(int start) {
            for (int node = start; node < length; node++) {
                if (isBinder(node)) {
                    rename(start, length, nameAt(node), nextVariable);
                    nextVariable++;
                }
                if (tailNameAt(node) != NONE) {
                    rename(start, length, tailNameAt(node), nextVariable);
                    nextVariable++;
                }
            }
        }

        /** A tree with a value wherever a variable stands. */
        void copyWith(Code from, int root, int variable, int value) {
            int end = from.endOf(root);
            for (int node = root; node < end; node++) {
                if (from.kindAt(node) == A_VARIABLE && from.nameAt(node) == variable) {
                    int start = length;
                    copy(from, value);
                    freshen(start);
                } else {
                    copyNode(from, node);
                }
            }
        }
    }

    /**
     * Goes through the cores. A core is read from its end, so that a node comes when its parts are done, and
     * these stand behind it. The parts are thus taken from the right, which can't be seen: what is done to a
     * node does not depend on what stands beside it.
     */
    private static final class Passes {
        // What waits here are trees made of parts of one core that have no node in common. Only a part of
        // three nodes or more can have grown: so these are 50 trees of 150 nodes at most, and all others
        // together have fewer nodes than a core.
        private static final int WORK_ROOM = 8192;

        private static final int SMALL_LAMBDA = 6;
        private static final int SMALL_CORE = 8;

        private final Code now;
        private final Demand demand;
        private final Code next = new Code(DEFINITIONS * MOST_SIZE);
        private final Code work = new Code(WORK_ROOM);
        private final Draft draft = new Draft();
        private final int[] rules = new int[MOST_RULES];
        private int ruleCount;
        private int top;
        private int changed;

        Passes(Code now, Demand demand) {
            this.now = now;
            this.demand = demand;
        }

        int addRule(int phase, int outer, int inner, int result) {
            write(rules, ruleCount, ruleKey(phase, outer, inner) * DEFINITIONS + result);
            ruleCount++;
            return ruleCount;
        }

        private static int ruleKey(int phase, int outer, int inner) {
            return (phase * DEFINITIONS + outer) * DEFINITIONS + inner;
        }

        void begin() {
            changed = 0;
        }

        /** Makes the next core of a definition; returns false if one of its nodes would be too large. */
        boolean goThrough(int definition, int pass) {
            int root = rootOf(definition);
            top = WORK_ROOM;
            draft.beginCore();
            if (pass == STRICT) {
                demand.goThrough(definition);
            }
            for (int node = now.endOf(root) - 1; node >= root; node--) {
                top--;
                if (top < 0) {
                    return false;
                }
                work.take(top, now, node);
                work.measure(top);
                draft.begin();
                boolean isChanged = pass == SIMPLIFY ? simplify(top) : rewrite(top, pass, node - root);
                if (isChanged) {
                    changed++;
                    if (draft.isTooLong()) {
                        return false;
                    }
                    replaceTop();
                }
                if (work.sizeAt(top) > MOST_SIZE) {
                    return false;
                }
            }
            next.takeInOrder(root, work, top);
            return true;
        }

        /** Makes the next cores those that count, when all have been gone through. */
        int finish() {
            for (int definition = 0; definition < DEFINITIONS; definition++) {
                if (now.sizeAt(rootOf(definition)) > 0) {
                    now.takeTree(rootOf(definition), next, rootOf(definition));
                }
            }
            return changed;
        }

        private void replaceTop() {
            int end = work.endOf(top);
            draft.measureAll(draft.length);
            top = end - draft.length;
            work.takeTree(top, draft, 0);
        }

        // These draft what is to stand in place of a node, and tell whether the pass changes it.

        private boolean rewrite(int node, int pass, int place) {
            switch (pass) {
                case FLOAT_IN:
                    return floatIn(node);
                case FLOAT_OUT:
                    return floatOut(node);
                case ARITY:
                    return raiseArity(node);
                case STRICT:
                    return makeStrict(node, place);
                default:
                    return useRule(node, pass - FIRST_RULES);
            }
        }

        private boolean simplify(int node) {
            switch (work.kindAt(node)) {
                case AN_APPLY:
                    return simplifyApply(node);
                case A_LET:
                    return simplifyLet(node);
                case A_MATCH:
                    return simplifyMatch(node);
                case A_TEST:
                    return simplifyTest(node);
                case A_PRIMITIVE:
                    return simplifyPrimitive(node);
                default:
                    return false;
            }
        }

        private boolean simplifyApply(int node) {
            int function = work.first(node);
            if (work.kindAt(function) == A_LAMBDA) {
                draft.add(A_LET, work.nameAt(function), 0);
                draft.copy(work, work.second(node));
                draft.copy(work, work.first(function));
                return true;
            }
            if (work.kindAt(function) == A_GLOBAL) {
                return unfold(node, rootOf((int) work.numberAt(function)));
            }
            return liftLet(node);
        }

        private boolean unfold(int node, int root) {
            if (now.kindAt(root) != A_LAMBDA || now.sizeAt(root) > SMALL_CORE || now.hasGlobals(root)) {
                return false;
            }
            draft.copyNode(work, node);
            int start = draft.length;
            draft.copy(now, root);
            draft.freshen(start);
            draft.copy(work, work.second(node));
            return true;
        }

        /** A node whose first part is a LET of some kind: puts the node into the body of this. */
        private boolean liftLet(int node) {
            int let = work.first(node);
            if (!work.isLet(let)) {
                return false;
            }
            draft.copyNode(work, let);
            draft.copy(work, work.first(let));
            draft.copyNode(work, node);
            draft.copy(work, work.second(let));
            draft.copy(work, work.second(node));
            if (read(PARTS, work.kindAt(node)) == 3) {
                draft.copy(work, work.third(node));
            }
            return true;
        }

        private boolean simplifyLet(int node) {
            int variable = work.nameAt(node);
            int value = work.first(node);
            int body = work.second(node);
            int times = work.occurrences(variable, body);
            if (times == 0) {
                draft.copy(work, body);
                return true;
            }
            boolean isOnceOutside = times == 1 && !work.occursInLambda(variable, body);
            boolean isSmallLambda = work.kindAt(value) == A_LAMBDA && work.sizeAt(value) <= SMALL_LAMBDA;
            if (isAtom(value) || isOnceOutside || isSmallLambda) {
                draft.copyWith(work, body, variable, value);
                return true;
            }
            return false;
        }

        private boolean isAtom(int node) {
            int kind = work.kindAt(node);
            return kind == A_NUMBER || kind == A_VARIABLE || kind == A_GLOBAL;
        }

        private boolean simplifyMatch(int node) {
            int list = work.first(node);
            if (work.kindAt(list) == A_NIL) {
                draft.copy(work, work.second(node));
                return true;
            }
            if (work.kindAt(list) == A_CONS) {
                draft.add(A_LET, work.nameAt(node), 0);
                draft.copy(work, work.first(list));
                draft.add(A_LET, work.tailNameAt(node), 0);
                draft.copy(work, work.second(list));
                draft.copy(work, work.third(node));
                return true;
            }
            return liftLet(node);
        }

        private boolean simplifyTest(int node) {
            int number = work.first(node);
            if (work.kindAt(number) == A_NUMBER) {
                draft.copy(work, work.numberAt(number) != 0 ? work.second(node) : work.third(node));
                return true;
            }
            return liftLet(node);
        }

        private boolean simplifyPrimitive(int node) {
            int first = work.first(node);
            int second = work.second(node);
            if (work.kindAt(first) != A_NUMBER || work.kindAt(second) != A_NUMBER) {
                return false;
            }
            int sign = (int) work.numberAt(node);
            draft.add(A_NUMBER, NONE, compute(sign, work.numberAt(first), work.numberAt(second)));
            return true;
        }

        private boolean floatIn(int node) {
            int choice = work.second(node);
            boolean isChoice = work.kindAt(choice) == A_MATCH || work.kindAt(choice) == A_TEST;
            if (work.kindAt(node) != A_LET || !isChoice) {
                return false;
            }
            int variable = work.nameAt(node);
            boolean isInSecond = work.occurrences(variable, work.second(choice)) > 0;
            boolean isInThird = work.occurrences(variable, work.third(choice)) > 0;
            if (work.occurrences(variable, work.first(choice)) > 0 || isInSecond == isInThird) {
                return false;
            }
            draft.copyNode(work, choice);
            draft.copy(work, work.first(choice));
            if (isInSecond) {
                copyLetRound(node, work.second(choice));
                draft.copy(work, work.third(choice));
            } else {
                draft.copy(work, work.second(choice));
                copyLetRound(node, work.third(choice));
            }
            return true;
        }

        private void copyLetRound(int let, int body) {
            draft.copyNode(work, let);
            draft.copy(work, work.first(let));
            draft.copy(work, body);
        }

        private boolean floatOut(int node) {
            int let = work.first(node);
            if (work.kindAt(node) != A_LAMBDA || work.kindAt(let) != A_LET) {
                return false;
            }
            int value = work.first(let);
            boolean isFree = work.occurrences(work.nameAt(node), value) == 0;
            if (!isFree || isAtom(value) || work.kindAt(value) == A_LAMBDA) {
                return false;
            }
            draft.copyNode(work, let);
            draft.copy(work, value);
            draft.copyNode(work, node);
            draft.copy(work, work.second(let));
            return true;
        }

        private boolean raiseArity(int node) {
            int lambda = work.second(node);
            if (work.kindAt(node) != A_LET || work.kindAt(lambda) != A_LAMBDA) {
                return false;
            }
            int value = work.kindAt(work.first(node));
            if (value != A_NUMBER && value != A_VARIABLE && value != A_LAMBDA) {
                return false;
            }
            draft.copyNode(work, lambda);
            copyLetRound(node, work.first(lambda));
            return true;
        }

        // What is needed in a node is the same with a FORCE in place of a LET in it: so what was found
        // for the core ahead of the pass still holds.
        private boolean makeStrict(int node, int place) {
            int value = work.first(node);
            int placeOfBody = place + 1 + work.sizeAt(value);
            if (work.kindAt(node) != A_LET || !demand.isNeededIn(placeOfBody, work.nameAt(node))) {
                return false;
            }
            draft.add(A_FORCE, work.nameAt(node), 0);
            draft.copy(work, value);
            draft.copy(work, work.second(node));
            return true;
        }

        private boolean useRule(int node, int phase) {
            int outer = work.first(node);
            int argument = work.second(node);
            int inner = work.first(argument);
            if (work.kindAt(node) != AN_APPLY || work.kindAt(outer) != A_GLOBAL) {
                return false;
            }
            if (work.kindAt(argument) != AN_APPLY || work.kindAt(inner) != A_GLOBAL) {
                return false;
            }
            int key = ruleKey(phase, (int) work.numberAt(outer), (int) work.numberAt(inner));
            for (int i = 0; i < ruleCount; i++) {
                if (read(rules, i) / DEFINITIONS == key) {
                    draft.copyNode(work, node);
                    draft.add(A_GLOBAL, NONE, read(rules, i) % DEFINITIONS);
                    draft.copy(work, work.second(argument));
                    return true;
                }
            }
            return false;
        }
    }

    /** Which parameters the definitions need, and which variables are needed in the nodes of one of them. */
    private static final class Demand {
        // A core binds fewer variables than it has nodes.
        private static final int WORDS = 3;

        private final Code now;
        private final long[] sets = new long[MOST_SIZE * WORDS];
        private final int[] before = new int[DEFINITIONS];
        private final int[] found = new int[DEFINITIONS];
        private int root;

        Demand(Code now) {
            this.now = now;
        }

        /** Finds the parameters that are needed; a bit of a number stands for each. */
        void find() {
            for (int definition = 0; definition < DEFINITIONS; definition++) {
                write(found, definition, allParameters(definition));
            }
            boolean isSame = false;
            // Each round but the last one takes away a parameter at least.
            for (int round = 0; round <= DEFINITIONS * MOST_PARAMETERS && !isSame; round++) {
                isSame = findAnew();
            }
        }

        private int allParameters(int definition) {
            return (1 << now.parametersAt(rootOf(definition))) - 1;
        }

        private boolean findAnew() {
            for (int definition = 0; definition < DEFINITIONS; definition++) {
                write(before, definition, read(found, definition));
            }
            boolean isSame = true;
            for (int definition = 0; definition < DEFINITIONS; definition++) {
                if (read(before, definition) != 0) {
                    goThrough(definition);
                    int body = now.parametersAt(root);
                    // The lambdas bind first in a core's order: the parameters are the lowest variables.
                    int needed = (int) readLong(sets, body * WORDS) & allParameters(definition);
                    write(found, definition, needed);
                    isSame = isSame && needed == read(before, definition);
                }
            }
            return isSame;
        }

        boolean isParameterNeeded(int definition, int parameter) {
            return (read(found, definition) >> parameter & 1) == 1;
        }

        /** Finds the variables that are needed in each node of a core. */
        void goThrough(int definition) {
            root = rootOf(definition);
            for (int node = now.endOf(root) - 1; node >= root; node--) {
                for (int word = 0; word < WORDS; word++) {
                    writeLong(sets, (node - root) * WORDS + word, 0);
                }
                findIn(node);
            }
        }

        /** Of the core gone through last; the place is counted from its root. */
        boolean isNeededIn(int place, int variable) {
            return (readLong(sets, place * WORDS + variable / 64) >> variable % 64 & 1) == 1;
        }

        private void findIn(int node) {
            switch (now.kindAt(node)) {
                case A_VARIABLE:
                    addVariable(node, now.nameAt(node));
                    break;
                case AN_APPLY:
                    addAll(node, now.first(node));
                    addArguments(node);
                    break;
                case A_LET:
                    addAll(node, now.second(node));
                    if (isNeededIn(now.second(node) - root, now.nameAt(node))) {
                        addAll(node, now.first(node));
                    }
                    break;
                case A_LETREC:
                    addAll(node, now.second(node));
                    break;
                case A_FORCE:
                case A_PRIMITIVE:
                    addAll(node, now.first(node));
                    addAll(node, now.second(node));
                    break;
                case A_MATCH:
                case A_TEST:
                    addAll(node, now.first(node));
                    addCommon(node, now.second(node), now.third(node));
                    break;
                case A_CENTRE:
                    addAll(node, now.first(node));
                    break;
                default:
                    break;
            }
        }

        private void addArguments(int node) {
            int function = now.first(node);
            int arguments = 1;
            while (arguments < MOST_SIZE && now.kindAt(function) == AN_APPLY) {
                function = now.first(function);
                arguments++;
            }
            if (now.kindAt(function) != A_GLOBAL) {
                return;
            }
            int called = (int) now.numberAt(function);
            if (arguments < now.parametersAt(rootOf(called))) {
                return;
            }
            int apply = node;
            for (int argument = arguments - 1; argument >= 0; argument--) {
                if (argument < MOST_PARAMETERS && (read(before, called) >> argument & 1) == 1) {
                    addAll(node, now.second(apply));
                }
                apply = now.first(apply);
            }
        }

        private void addVariable(int node, int variable) {
            int word = (node - root) * WORDS + variable / 64;
            writeLong(sets, word, readLong(sets, word) | 1L << variable % 64);
        }

        private void addAll(int node, int part) {
            for (int word = 0; word < WORDS; word++) {
                int to = (node - root) * WORDS + word;
                writeLong(sets, to, readLong(sets, to) | readLong(sets, (part - root) * WORDS + word));
            }
        }

        private void addCommon(int node, int first, int second) {
            for (int word = 0; word < WORDS; word++) {
                long common = readLong(sets, (first - root) * WORDS + word)
                        & readLong(sets, (second - root) * WORDS + word);
                int to = (node - root) * WORDS + word;
                writeLong(sets, to, readLong(sets, to) | common);
            }
        }
    }

    /** The cells of a run, and the scopes that bind variables to them. */
    private static final class Store {
        // What a cell is, if it has no value; one with a value has the kind of this.
        private static final int UNDEFINED = 0, WAITING = -1, BUSY = -2;

        // The cells of definitions come first; the one behind them holds the value just found.
        private static final int FOUND = DEFINITIONS;
        private static final int FIRST_MADE = DEFINITIONS + 1;
        // A step makes at most two cells, and at most two scopes.
        private static final int CELLS = FIRST_MADE + 2 * (STEPS_TO_GO_ON + MOST_STEPS);
        private static final int SCOPES = 2 * (STEPS_TO_GO_ON + MOST_STEPS);

        private final int[] states = new int[CELLS];
        // A node and its scope, of what is waiting and of a function; a head and a tail.
        private final int[] firsts = new int[CELLS];
        private final int[] seconds = new int[CELLS];
        private final long[] numbers = new long[CELLS];
        private int cellCount = FIRST_MADE;
        private final int[] variables = new int[SCOPES];
        private final int[] cells = new int[SCOPES];
        private final int[] outers = new int[SCOPES];
        private int scopeCount;

        void clear() {
            cellCount = FIRST_MADE;
            scopeCount = 0;
        }

        int madeCells() {
            return cellCount - FIRST_MADE;
        }

        int stateOf(int cell) {
            return cell >= 0 && cell < cellCount ? read(states, cell) : UNDEFINED;
        }

        int firstOf(int cell) {
            return read(firsts, cell);
        }

        int secondOf(int cell) {
            return read(seconds, cell);
        }

        long numberOf(int cell) {
            return readLong(numbers, cell);
        }

        void fill(int cell, int state, int first, int second, long number) {
            write(states, cell, state);
            write(firsts, cell, first);
            write(seconds, cell, second);
            writeLong(numbers, cell, number);
        }

        void copy(int from, int to) {
            fill(to, stateOf(from), firstOf(from), secondOf(from), numberOf(from));
        }

        void beBusy(int cell) {
            write(states, cell, BUSY);
        }

        int makeWaiting(int node, int scope) {
            int cell = cellCount;
            cellCount++;
            fill(cell, WAITING, node, scope, 0);
            return cell;
        }

        int makeOfFound() {
            int cell = cellCount;
            cellCount++;
            copy(FOUND, cell);
            return cell;
        }

        void setScope(int cell, int scope) {
            write(seconds, cell, scope);
        }

        int bind(int variable, int cell, int outer) {
            int scope = scopeCount;
            scopeCount++;
            write(variables, scope, variable);
            write(cells, scope, cell);
            write(outers, scope, outer);
            return scope;
        }

        int find(int variable, int innermost) {
            int scope = innermost;
            for (int turn = 0; turn < SCOPES && scope != NONE; turn++) {
                if (read(variables, scope) == variable) {
                    return read(cells, scope);
                }
                scope = read(outers, scope);
            }
            return NONE;
        }
    }

    /** What is to be gone on with when a value is found. */
    private static final class Frames {
        // A node of which the first part is being evaluated has its own kind as a frame.
        private static final int UPDATE = -1, SECOND_PART = -2;
        // A step leaves at most one frame, and so does a cell evaluated for the print.
        private static final int ROOM = STEPS_TO_GO_ON + MOST_STEPS + 64;

        private final int[] kinds = new int[ROOM];
        private final int[] places = new int[ROOM];
        private final int[] scopes = new int[ROOM];
        private final long[] numbers = new long[ROOM];
        private int depth;

        void push(int kind, int place, int scope, long number) {
            write(kinds, depth, kind);
            write(places, depth, place);
            write(scopes, depth, scope);
            writeLong(numbers, depth, number);
            depth++;
        }
    }

    /** The heads and tails that a run evaluates behind what it gives, and its print. */
    private static final class Show {
        private static final int MOST_SHOWN = 20;

        // Each of the values shown, the first one and 20 more, leaves at most two.
        private final int[] waiting = new int[2 * MOST_SHOWN + 2];
        private int waitingCount;
        private int shown;
        private long print;

        void begin() {
            waitingCount = 0;
            shown = 0;
            print = 7;
        }

        void add(Store store) {
            int found = Store.FOUND;
            switch (store.stateOf(found)) {
                case A_NUMBER:
                    addNumber(1);
                    addNumber(store.numberOf(found));
                    break;
                case A_LAMBDA:
                    addNumber(2);
                    break;
                case A_NIL:
                    addNumber(3);
                    break;
                default:
                    addNumber(4);
                    keep(store.secondOf(found));
                    keep(store.firstOf(found));
                    break;
            }
        }

        private void addNumber(long number) {
            print = 31 * print + number;
        }

        private void keep(int cell) {
            write(waiting, waitingCount, cell);
            waitingCount++;
        }

        /** Returns the next head or tail to be evaluated; NONE if there is none more. */
        int nextCell() {
            if (waitingCount == 0 || shown >= MOST_SHOWN) {
                return NONE;
            }
            shown++;
            waitingCount--;
            return read(waiting, waitingCount);
        }

        void finish() {
            for (int i = 0; i < waitingCount; i++) {
                addNumber(5);
            }
            waitingCount = 0;
        }
    }

    /** Evaluates, step by step, and can be stopped ahead of each. */
    private static final class Machine {
        private static final int RUNNING = -2;
        // Each step is a turn, and each frame and each head or tail at most one more.
        private static final int MOST_TURNS = 1000000;

        // The cores as they were when the run began.
        private final Code program = new Code(DEFINITIONS * MOST_SIZE);
        private final Store store = new Store();
        private final Frames frames = new Frames();
        private final Show show = new Show();
        private final int[] entered = new int[CENTRES];
        private int definition;
        private int outcome = NONE;
        private int steps;
        private int limit;
        private boolean isEvaluating;
        private int node;
        private int scope;

        void begin(Code cores, int definition) {
            this.definition = definition;
            store.clear();
            for (int i = 0; i < DEFINITIONS; i++) {
                int root = rootOf(i);
                program.takeTree(root, cores, root);
                boolean isDefined = cores.sizeAt(root) > 0;
                store.fill(i, isDefined ? Store.WAITING : Store.UNDEFINED, root, NONE, 0);
            }
            for (int i = 0; i < CENTRES; i++) {
                write(entered, i, 0);
            }
            frames.depth = 0;
            show.begin();
            steps = 0;
            enter(definition);
        }

        int work(int more) {
            limit = steps + more;
            outcome = RUNNING;
            for (int turn = 0; turn < MOST_TURNS && outcome == RUNNING; turn++) {
                if (isEvaluating && steps >= limit) {
                    outcome = TOO_FAR;
                } else if (isEvaluating) {
                    evaluate();
                } else if (frames.depth > 0) {
                    resume();
                } else {
                    showNext();
                }
            }
            return outcome;
        }

        private void showNext() {
            show.add(store);
            int cell = show.nextCell();
            if (cell != NONE) {
                enter(cell);
                return;
            }
            show.finish();
            int kind = store.stateOf(definition);
            outcome = kind == A_NUMBER ? NUMBER : kind == A_LAMBDA ? FUNCTION : LIST;
        }

        private void evaluate() {
            steps++;
            int at = node;
            switch (program.kindAt(at)) {
                case A_NUMBER:
                    give(A_NUMBER, 0, 0, program.numberAt(at));
                    break;
                case A_LAMBDA:
                    give(A_LAMBDA, at, scope, 0);
                    break;
                case A_NIL:
                    give(A_NIL, 0, 0, 0);
                    break;
                case A_CONS:
                    int head = cellFor(program.first(at), scope);
                    give(A_CONS, head, cellFor(program.second(at), scope), 0);
                    break;
                case A_VARIABLE:
                    enter(store.find(program.nameAt(at), scope));
                    break;
                case A_GLOBAL:
                    enter((int) program.numberAt(at));
                    break;
                case A_LET:
                case A_LETREC:
                    evaluateLet(at);
                    break;
                case A_CENTRE:
                    write(entered, (int) program.numberAt(at), read(entered, (int) program.numberAt(at)) + 1);
                    evaluateNext(program.first(at), scope);
                    break;
                default:
                    frames.push(program.kindAt(at), at, scope, 0);
                    evaluateNext(program.first(at), scope);
                    break;
            }
        }

        private void evaluateLet(int let) {
            int cell = store.makeWaiting(program.first(let), scope);
            int inner = store.bind(program.nameAt(let), cell, scope);
            if (program.kindAt(let) == A_LETREC) {
                store.setScope(cell, inner);
            }
            evaluateNext(program.second(let), inner);
        }

        private void evaluateNext(int next, int nextScope) {
            isEvaluating = true;
            node = next;
            scope = nextScope;
        }

        private void give(int kind, int first, int second, long number) {
            isEvaluating = false;
            store.fill(Store.FOUND, kind, first, second, number);
        }

        private int cellFor(int part, int partScope) {
            if (program.kindAt(part) == A_VARIABLE) {
                return store.find(program.nameAt(part), partScope);
            }
            return store.makeWaiting(part, partScope);
        }

        private void enter(int cell) {
            switch (store.stateOf(cell)) {
                case Store.UNDEFINED:
                    outcome = STUCK;
                    break;
                case Store.BUSY:
                    outcome = LOOP;
                    break;
                case Store.WAITING:
                    store.beBusy(cell);
                    frames.push(Frames.UPDATE, cell, 0, 0);
                    evaluateNext(store.firstOf(cell), store.secondOf(cell));
                    break;
                default:
                    isEvaluating = false;
                    store.copy(cell, Store.FOUND);
                    break;
            }
        }

        private void resume() {
            frames.depth--;
            int place = read(frames.places, frames.depth);
            int outer = read(frames.scopes, frames.depth);
            switch (read(frames.kinds, frames.depth)) {
                case Frames.UPDATE:
                    store.copy(Store.FOUND, place);
                    break;
                case AN_APPLY:
                    call(place, outer);
                    break;
                case A_FORCE:
                    int inner = store.bind(program.nameAt(place), store.makeOfFound(), outer);
                    evaluateNext(program.second(place), inner);
                    break;
                case A_PRIMITIVE:
                    evaluateSecond(place, outer);
                    break;
                case Frames.SECOND_PART:
                    finishPrimitive(place, outer == A_NUMBER, readLong(frames.numbers, frames.depth));
                    break;
                case A_MATCH:
                    choose(place, outer);
                    break;
                default:
                    decide(place, outer);
                    break;
            }
        }

        private void call(int apply, int applyScope) {
            if (store.stateOf(Store.FOUND) != A_LAMBDA) {
                outcome = STUCK;
                return;
            }
            int lambda = store.firstOf(Store.FOUND);
            int outer = store.secondOf(Store.FOUND);
            int cell = cellFor(program.second(apply), applyScope);
            evaluateNext(program.first(lambda), store.bind(program.nameAt(lambda), cell, outer));
        }

        // The first part may be no number: it is kept what it was, for the second comes ahead of STUCK.
        private void evaluateSecond(int primitive, int outer) {
            frames.push(Frames.SECOND_PART, primitive, store.stateOf(Store.FOUND), store.numberOf(Store.FOUND));
            evaluateNext(program.second(primitive), outer);
        }

        private void finishPrimitive(int primitive, boolean isNumber, long first) {
            if (!isNumber || store.stateOf(Store.FOUND) != A_NUMBER) {
                outcome = STUCK;
                return;
            }
            int sign = (int) program.numberAt(primitive);
            give(A_NUMBER, 0, 0, compute(sign, first, store.numberOf(Store.FOUND)));
        }

        private void choose(int match, int outer) {
            int kind = store.stateOf(Store.FOUND);
            if (kind == A_NIL) {
                evaluateNext(program.second(match), outer);
            } else if (kind == A_CONS) {
                int headScope = store.bind(program.nameAt(match), store.firstOf(Store.FOUND), outer);
                int inner = store.bind(program.tailNameAt(match), store.secondOf(Store.FOUND), headScope);
                evaluateNext(program.third(match), inner);
            } else {
                outcome = STUCK;
            }
        }

        private void decide(int test, int outer) {
            if (store.stateOf(Store.FOUND) != A_NUMBER) {
                outcome = STUCK;
            } else if (store.numberOf(Store.FOUND) != 0) {
                evaluateNext(program.second(test), outer);
            } else {
                evaluateNext(program.third(test), outer);
            }
        }
    }

    /** Counts the cells that can still be reached when a run has ended. */
    private static final class Reach {
        private final Code program;
        private final Store store;
        private final int[] reached = new int[Store.CELLS];
        private final boolean[] isReached = new boolean[Store.CELLS];
        private int count;

        Reach(Machine machine) {
            program = machine.program;
            store = machine.store;
        }

        /** The cell of the definition that was run holds what the run gave. */
        int countFrom(int definition) {
            count = 0;
            for (int i = 0; i < isReached.length; i++) {
                isReached[i] = false;
            }
            add(definition);
            int made = 0;
            for (int i = 0; i < count && i < Store.CELLS; i++) {
                int cell = read(reached, i);
                goThrough(cell);
                made += cell >= Store.FIRST_MADE ? 1 : 0;
            }
            return made;
        }

        private void add(int cell) {
            if (cell >= 0 && cell < isReached.length && !isReached[cell]) {
                isReached[cell] = true;
                write(reached, count, cell);
                count++;
            }
        }

        private void goThrough(int cell) {
            switch (store.stateOf(cell)) {
                case A_CONS:
                    add(store.firstOf(cell));
                    add(store.secondOf(cell));
                    break;
                case A_LAMBDA:
                case Store.WAITING:
                    addFree(store.firstOf(cell), store.secondOf(cell));
                    break;
                default:
                    break;
            }
        }

        // A variable that is bound within the node itself is not found in its scope.
        private void addFree(int root, int scope) {
            int end = program.endOf(root);
            for (int node = root; node < end; node++) {
                if (program.kindAt(node) == A_VARIABLE) {
                    add(store.find(program.nameAt(node), scope));
                } else if (program.kindAt(node) == A_GLOBAL) {
                    add((int) program.numberAt(node));
                }
            }
        }
    }
}
