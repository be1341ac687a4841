import java.util.ArrayList;
import java.util.List;
import java.util.Random;

/** Runs of calls made by chance, with seeds that stay, answered by the class and by the model alike. */
public final class ModelTest {
    private static final int N = 0, L = 1, F = 2, ANY = 3;
    private static final String[] CALLS = {"number", "variable", "global", "lambda", "apply", "let", "primitive",
        "nil", "cons", "match", "test", "centre", "define", "rule", "pass", "reset", "size", "core", "parameters",
        "needs", "isAbsent", "run", "goOn", "print", "steps", "cellsMade", "entered", "live"};

    private final Random random;
    private final int seed;
    private final SpinelessHall hall = new SpinelessHall();
    private final Model model = new Model();
    private final List<String> calls = new ArrayList<>();
    private final int[] kindOfDefinition = new int[8];
    private boolean isSame = true;
    // How often runs ended each way, and, from 10 on, how often each pass changed something.
    private static final int REFUSED_PASS = 20;
    private static final int[] COUNTS = new int[21];

    private ModelTest(int seed) {
        this.seed = seed;
        this.random = new Random(seed);
        for (int i = 0; i < 8; i++) {
            kindOfDefinition[i] = random.nextInt(3);
        }
    }

    private static String text(int call, long... a) {
        StringBuilder text = new StringBuilder(CALLS[call]).append('(');
        for (int i = 0; i < a.length; i++) {
            text.append(i == 0 ? "" : ", ").append(a[i]);
        }
        return text.append(')').toString();
    }

    /** Makes a call of both; returns its answer, or -1 if it throws. */
    private int both(int call, long... a) {
        if (!isSame || calls.size() >= 512) {
            return -1;
        }
        String got = Check.told(() -> callHall(call, a));
        String want = Check.told(() -> callModel(call, a));
        calls.add(text(call, a) + " -> " + want);
        if (!got.equals(want)) {
            isSame = false;
            System.out.println(String.join("\n", calls));
            Check.same("seed " + seed + ": " + text(call, a), got, want);
        }
        count(call, a, want);
        return want.startsWith("throws") ? -1 : (int) Long.parseLong(want);
    }

    private static void count(int call, long[] a, String want) {
        boolean isPass = call == 14;
        if (isPass && want.equals(Check.STATE)) {
            COUNTS[REFUSED_PASS]++;
        } else if (want.startsWith("throws")) {
            return;
        } else if (call == 21 || call == 22) {
            COUNTS[Integer.parseInt(want)]++;
        } else if (isPass && !want.equals("0")) {
            COUNTS[10 + (int) a[0]]++;
        }
    }

    private static void judgeCounts() {
        for (int i = 0; i < COUNTS.length; i++) {
            boolean isCounted = i < 6 || i >= 10 && i < 17 || i == REFUSED_PASS;
            Check.same("case " + i + " comes often enough", !isCounted || COUNTS[i] > 50, true);
        }
    }

    private long callHall(int call, long[] x) {
        int[] a = new int[6];
        for (int i = 0; i < x.length; i++) {
            a[i] = (int) x[i];
        }
        switch (call) {
            case 0: return hall.number(x[0]);
            case 1: return hall.variable(a[0]);
            case 2: return hall.global(a[0]);
            case 3: return hall.lambda(a[0], a[1]);
            case 4: return hall.apply(a[0], a[1]);
            case 5: return hall.let(a[0], a[1], a[2], a[3] == 1);
            case 6: return hall.primitive(a[0], a[1], a[2]);
            case 7: return hall.nil();
            case 8: return hall.cons(a[0], a[1]);
            case 9: return hall.match(a[0], a[1], a[2], a[3]);
            case 10: return hall.test(a[0], a[1], a[2]);
            case 11: return hall.centre(a[0], a[1]);
            case 12: return hall.define(a[0], a[1]);
            case 13: return hall.rule(a[0], a[1], a[2], a[3]);
            case 14: return hall.pass(a[0]);
            case 15: return hall.reset();
            case 16: return hall.size(a[0]);
            case 17: return hall.core(a[0]);
            case 18: return hall.parameters(a[0]);
            case 19: return Check.bit(hall.needs(a[0], a[1]));
            case 20: return Check.bit(hall.isAbsent(a[0], a[1]));
            case 21: return hall.run(a[0], a[1], a[2] == 1);
            case 22: return hall.goOn(a[0]);
            case 23: return hall.print();
            case 24: return hall.steps();
            case 25: return hall.cellsMade();
            case 26: return hall.entered(a[0]);
            default: return hall.live();
        }
    }

    private long callModel(int call, long[] x) {
        int[] a = new int[6];
        for (int i = 0; i < x.length; i++) {
            a[i] = (int) x[i];
        }
        switch (call) {
            case 0: return model.number(x[0]);
            case 1: return model.variable(a[0]);
            case 2: return model.global(a[0]);
            case 3: return model.lambda(a[0], a[1]);
            case 4: return model.apply(a[0], a[1]);
            case 5: return model.let(a[0], a[1], a[2], a[3] == 1);
            case 6: return model.primitive(a[0], a[1], a[2]);
            case 7: return model.nil();
            case 8: return model.cons(a[0], a[1]);
            case 9: return model.match(a[0], a[1], a[2], a[3]);
            case 10: return model.test(a[0], a[1], a[2]);
            case 11: return model.centre(a[0], a[1]);
            case 12: return model.define(a[0], a[1]);
            case 13: return model.rule(a[0], a[1], a[2], a[3]);
            case 14: return model.pass(a[0]);
            case 15: return model.reset();
            case 16: return model.size(a[0]);
            case 17: return model.core(a[0]);
            case 18: return model.parameters(a[0]);
            case 19: return Check.bit(model.needs(a[0], a[1]));
            case 20: return Check.bit(model.isAbsent(a[0], a[1]));
            case 21: return model.run(a[0], a[1], a[2] == 1);
            case 22: return model.goOn(a[0]);
            case 23: return model.print();
            case 24: return model.steps();
            case 25: return model.cellsMade();
            case 26: return model.entered(a[0]);
            default: return model.live();
        }
    }

    // ---- terms in which most names are bound and most kinds fit

    private int chance(int bound) {
        return random.nextInt(bound);
    }

    private static int[] and(int[] scope, int name, int kind) {
        int[] inner = scope.clone();
        inner[name] = kind;
        return inner;
    }

    private int leaf(int kind, int[] scope) {
        List<Integer> fitting = new ArrayList<>();
        for (int name = 0; name < scope.length; name++) {
            if (scope[name] == kind || kind == ANY && scope[name] >= 0) {
                fitting.add(name);
            }
        }
        if (!fitting.isEmpty() && chance(4) > 0) {
            return both(1, fitting.get(chance(fitting.size())));
        }
        if (chance(4) == 0) {
            int definition = chance(8);
            for (int i = 0; i < 8; i++) {
                if (kindOfDefinition[(definition + i) % 8] == kind) {
                    return both(2, (definition + i) % 8);
                }
            }
        }
        switch (kind) {
            case L: return both(7);
            case F: {
                int x = chance(4);
                return both(3, x, both(1, x));
            }
            default: return both(0, chance(6) - 1);
        }
    }

    private int term(int asked, int fuel, int[] scope) {
        int kind = asked == ANY || chance(60) == 0 ? chance(3) : asked;
        if (fuel <= 1 || chance(12) == 0) {
            return leaf(kind, scope);
        }
        int x = chance(5);
        int half = fuel / 2;
        switch (chance(9)) {
            case 0:
            case 1: {
                int bound = chance(3);
                boolean isRecursive = chance(4) == 0;
                int value = term(bound, half, isRecursive ? and(scope, x, bound) : scope);
                return both(5, x, value, term(kind, half, and(scope, x, bound)), isRecursive ? 1 : 0);
            }
            case 2: {
                int y = (x + 1 + chance(4)) % 5;
                int list = term(L, fuel / 3, scope);
                int ifNil = term(kind, fuel / 3, scope);
                int ifCons = term(kind, fuel / 3, and(and(scope, x, N), y, L));
                return both(9, list, ifNil, 26 * x + y, ifCons);
            }
            case 3: {
                int number = term(N, fuel / 3, scope);
                int ifSo = term(kind, fuel / 3, scope);
                return both(10, number, ifSo, term(kind, fuel / 3, scope));
            }
            case 4:
                return both(11, chance(6), term(kind, fuel - 1, scope));
            case 5: {
                int bound = chance(3);
                int body = term(kind, half, and(scope, x, bound));
                return both(4, both(3, x, body), term(bound, half, scope));
            }
            default:
                return made(kind, fuel, scope, x);
        }
    }

    private int made(int kind, int fuel, int[] scope, int x) {
        int half = fuel / 2;
        if (kind == F) {
            return both(3, x, term(chance(5) == 0 ? F : N, fuel - 1, and(scope, x, N)));
        }
        if (kind == L) {
            int head = term(chance(6) == 0 ? ANY : N, half, scope);
            return both(8, head, term(L, half, scope));
        }
        if (chance(2) == 0) {
            int first = term(N, half, scope);
            return both(6, chance(5), first, term(N, half, scope));
        }
        if (chance(3) == 0) {
            return chain(scope);
        }
        if (chance(2) == 0) {
            return spine(fuel, scope);
        }
        int function = term(F, half, scope);
        return both(4, function, term(N, half, scope));
    }

    /** A global of a global of a global: what the rules look for. */
    private int chain(int[] scope) {
        int node = leaf(N, scope);
        for (int i = 1 + chance(4); i > 0; i--) {
            node = both(4, both(2, chance(3)), node);
        }
        return node;
    }

    /** A global with some arguments, too few or too many of them, too. */
    private int spine(int fuel, int[] scope) {
        int count = 1 + chance(5);
        int node = both(2, chance(8));
        for (int i = 0; i < count; i++) {
            node = both(4, node, chance(2) == 0 ? leaf(N, scope) : term(N, fuel / (count + 1), scope));
        }
        return node;
    }

    /** A function of a number or a list that calls itself and stops with it. */
    private int recursive(int definition) {
        int x = chance(3);
        int y = 3 + chance(2);
        int self = both(2, definition);
        int variable = both(1, x);
        int[] scope = {-1, -1, -1, -1, -1, -1};
        scope[x] = N;
        if (chance(2) == 0) {
            int again = both(4, self, both(6, 1, variable, both(0, 1)));
            int rest = both(chance(3) == 0 ? 8 : 6, chance(2) == 0 ? variable : term(N, 4, scope), again, 0);
            rest = rest < 0 ? both(6, 0, variable, again) : rest;
            return both(3, x, both(10, variable, rest, term(N, 3, scope)));
        }
        int z = (x + 1) % 3;
        int again = both(4, self, both(1, y));
        int more = both(8, both(6, chance(3), both(1, z), both(0, 2)), again);
        return both(3, x, both(9, variable, both(7), 26 * z + y, more));
    }

    /** Small functions, used again and again in one another: sizes near 150. */
    private int swelling() {
        int x = 0;
        int[] names = {1, 2, 3, 4};
        int levels = 2 + chance(3);
        int body = both(1, names[levels - 1]);
        for (int i = chance(4); i > 0; i--) {
            body = both(8, both(1, names[levels - 1]), body);
        }
        for (int level = levels - 1; level >= 0; level--) {
            int inner;
            if (level == 0) {
                inner = both(6, 0, both(1, x), both(6, 2, both(1, x), both(0, chance(9))));
            } else {
                int below = both(1, names[level - 1]);
                inner = chance(2) == 0 ? both(10, below, below, below) : both(8, below, below);
            }
            body = both(5, names[level], both(3, x, inner), body, 0);
        }
        return body;
    }

    private void define(int definition) {
        int[] scope = {-1, -1, -1, -1, -1, -1};
        int node;
        switch (chance(8)) {
            case 0:
                node = recursive(definition);
                break;
            case 1:
                node = swelling();
                break;
            case 2: {
                int count = 1 + chance(5);
                for (int i = 0; i < count; i++) {
                    scope[i] = N;
                }
                node = term(chance(3), 10, scope);
                for (int i = 0; i < count; i++) {
                    node = both(3, i, node);
                }
                break;
            }
            default:
                node = term(kindOfDefinition[definition], 6 + chance(20), scope);
                break;
        }
        both(12, definition, node);
    }

    private void look(int definition) {
        both(16, definition);
        both(17, definition);
        int count = both(18, definition);
        for (int i = 0; i < count; i++) {
            both(19, definition, i);
            both(20, definition, i);
        }
    }

    private void runs(int definition, boolean isTold) {
        int steps = chance(3) == 0 ? 1 + chance(30) : 1 + chance(1000);
        both(21, definition, steps, isTold ? 1 : 0);
        for (int i = 0; i < 5; i++) {
            if (chance(2) == 0) {
                both(24);
                both(25);
                both(26, chance(6));
            }
            if (chance(2) == 0) {
                both(22, chance(2) == 0 ? 1000 : 1 + chance(20));
            }
        }
        both(23);
        both(27);
        both(24);
        both(25);
    }

    private void fitting() {
        for (int i = 0; i < 8; i++) {
            define(i);
        }
        for (int i = chance(12); i > 0; i--) {
            both(13, chance(2), chance(3), chance(3), chance(8));
        }
        while (calls.size() < 440 && isSame) {
            int definition = chance(8);
            switch (chance(7)) {
                case 0:
                    both(15);
                    break;
                case 1:
                    look(definition);
                    break;
                case 2:
                    runs(definition, chance(3) == 0);
                    break;
                case 3:
                    both(14, 0);
                    look(definition);
                    break;
                case 4:
                    define(definition);
                    break;
                default:
                    both(14, chance(8));
                    look(definition);
                    break;
            }
        }
    }

    /** Any calls with any arguments, many of them wrong. */
    private void wild() {
        int[] arguments = {1, 1, 1, 2, 2, 4, 3, 0, 2, 4, 3, 2, 2, 4, 1, 0, 1, 1, 1, 2, 2, 3, 1, 0, 0, 0, 1, 0};
        for (int i = 0; i < 500 && isSame; i++) {
            int call = chance(3) == 0 ? chance(CALLS.length) : chance(13);
            long[] a = new long[arguments[call]];
            for (int k = 0; k < a.length; k++) {
                a[k] = chance(12) == 0 ? chance(40) - 5 : chance(5);
                if (chance(4) == 0) {
                    a[k] = chance(Math.max(1, i / 3));
                }
            }
            both(call, a);
        }
    }

    private static void all() {
        for (int seed = 1; seed <= 10000; seed++) {
            ModelTest test = new ModelTest(seed);
            if (seed % 4 == 0) {
                test.wild();
            } else {
                test.fitting();
            }
            Check.same("seed " + seed, test.isSame, true);
        }
        judgeCounts();
        Check.end("ModelTest");
    }

    public static void main(String[] args) throws InterruptedException {
        // The model evaluates by recursion.
        Thread thread = new Thread(null, ModelTest::all, "model", 1L << 30);
        thread.start();
        thread.join();
    }
}
