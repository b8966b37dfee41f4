import java.util.ArrayList;
import java.util.List;
import java.util.Random;

/**
 * Long mixed runs of calls, on SumCheck and on a model that follows the document's sums word by word,
 * without tables or shortcuts. The seeds are fixed: every run of this test makes the same calls.
 */
public final class SumCheckAgainstModel {
    private static final long P = 2147483647L;
    private static final int OBJECTS = 400;
    private static final int CALLS = 512;
    private static int wrong = 0;

    public static void main(String[] args) {
        for (int seed = 0; seed < OBJECTS && wrong < 20; seed++) {
            compare(seed);
        }
        System.out.println(wrong == 0 ? "all answers are as due" : "the program and the model disagree");
        if (wrong != 0) {
            System.exit(1);
        }
    }

    private static void compare(int seed) {
        Random random = new Random(seed);
        int variables = seed % 10 == 9 ? random.nextInt() : 1 + seed % 5;
        SumCheck program = new SumCheck(variables);
        Model model = new Model(variables);
        for (int i = 0; i < CALLS; i++) {
            int call = pickCall(random);
            int a = pickFirst(random, call, model);
            int b = pickSet(random, model.n);
            int c = pickSet(random, model.n);
            long got = onProgram(program, call, a, b, c);
            long want = onModel(model, call, a, b, c);
            if (got != want) {
                wrong++;
                System.out.println("seed " + seed + ", call " + i + ": " + NAMES[call] + " with " + a + ", " + b + ", " + c
                        + " answered " + got + ", due is " + want);
                return;
            }
        }
    }

    private static final String[] NAMES = {"clause", "clear", "holds", "count", "manner", "start", "challenge", "status",
        "round", "message", "running", "challengeAt", "extension"};
    private static final int[] WEIGHTS = {2, 1, 3, 2, 4, 6, 24, 6, 6, 18, 10, 8, 10};

    private static int pickCall(Random random) {
        int left = random.nextInt(100);
        int call = 0;
        while (left >= WEIGHTS[call]) {
            left -= WEIGHTS[call];
            call++;
        }
        return call;
    }

    private static int pickFirst(Random random, int call, Model model) {
        if (random.nextInt(40) == 0) {
            return random.nextInt();
        }
        switch (call) {
            case 2:
                return random.nextInt(4) - 1;
            case 4:
                return random.nextInt(10) == 0 ? random.nextInt(7) - 2 : random.nextInt(3);
            case 5:
                return random.nextInt(2) == 0 ? model.count() : pickElement(random);
            case 6:
                return pickElement(random);
            case 9:
                return random.nextInt(5) - 1;
            case 11:
                return random.nextInt(7) - 1;
            default:
                return random.nextInt(10) == 0 ? random.nextInt(5) - 2 : random.nextInt(2);
        }
    }

    private static int pickElement(Random random) {
        switch (random.nextInt(5)) {
            case 0:
                return random.nextInt(4);
            case 1:
                return (int) P - random.nextInt(4);
            default:
                return random.nextInt((int) P);
        }
    }

    private static int pickSet(Random random, int n) {
        switch (random.nextInt(12)) {
            case 0:
                return random.nextInt();
            case 1:
                return random.nextInt(1 << n + 1);
            default:
                return random.nextInt(1 << n);
        }
    }

    private static long onProgram(SumCheck s, int call, int a, int b, int c) {
        switch (call) {
            case 0: return s.clause(a, b, c);
            case 1: return s.clear(a);
            case 2: return s.holds(a, b) ? 1 : 0;
            case 3: return s.count();
            case 4: return s.manner(a);
            case 5: return s.start(a);
            case 6: return s.challenge(a);
            case 7: return s.status();
            case 8: return s.round();
            case 9: return s.message(a);
            case 10: return s.running();
            case 11: return s.challengeAt(a);
            default: return s.extension(a);
        }
    }

    private static long onModel(Model m, int call, int a, int b, int c) {
        switch (call) {
            case 0: return m.clause(a, b, c);
            case 1: return m.clear(a);
            case 2: return m.holds(a, b) ? 1 : 0;
            case 3: return m.count();
            case 4: return m.manner(a);
            case 5: return m.start(a);
            case 6: return m.challenge(a);
            case 7: return m.status;
            case 8: return m.given.size();
            case 9: return m.message(a);
            case 10: return m.status == 0 ? -1 : m.running;
            case 11: return m.status != 0 && a >= 0 && a < m.given.size() ? m.given.get(a) : -1;
            default: return m.extension(a);
        }
    }

    private static final class Model {
        final int n;
        final List<List<int[]>> formulas = List.of(new ArrayList<>(), new ArrayList<>());
        int manner = 0;
        int status = 0;
        long running = 0;
        long[] m = new long[3];
        List<Long> given = new ArrayList<>();

        Model(int variables) {
            n = Math.max(1, Math.min(5, variables));
        }

        boolean isSet(int set) {
            for (int i = n; i < 32; i++) {
                if ((set >> i & 1) == 1) {
                    return false;
                }
            }
            return true;
        }

        void forget() {
            status = 0;
            given = new ArrayList<>();
        }

        int clause(int formula, int pos, int neg) {
            if (formula != 0 && formula != 1 || !isSet(pos) || !isSet(neg)) {
                return -1;
            }
            if (formulas.get(formula).size() == 6) {
                return -2;
            }
            formulas.get(formula).add(new int[] {pos, neg});
            forget();
            return 0;
        }

        int clear(int formula) {
            if (formula != 0 && formula != 1) {
                return -1;
            }
            formulas.get(formula).clear();
            forget();
            return 0;
        }

        boolean holds(int formula, int x) {
            if (formula != 0 && formula != 1 || x < 0 || x > (1 << n) - 1) {
                return false;
            }
            for (int[] clause : formulas.get(formula)) {
                boolean some = false;
                for (int i = 0; i < n; i++) {
                    boolean value = (x >> i & 1) == 1;
                    some |= (clause[0] >> i & 1) == 1 && value;
                    some |= (clause[1] >> i & 1) == 1 && !value;
                }
                if (!some) {
                    return false;
                }
            }
            return true;
        }

        int count() {
            int both = 0;
            for (int x = 0; x < 1 << n; x++) {
                both += holds(0, x) && holds(1, x) ? 1 : 0;
            }
            return both;
        }

        int manner(int wanted) {
            if (wanted < 0 || wanted > 2) {
                return -1;
            }
            manner = wanted;
            return 0;
        }

        long extended(int formula, long[] z) {
            long sum = 0;
            for (int x = 0; x < 1 << n; x++) {
                long product = holds(formula, x) ? 1 : 0;
                for (int i = 0; i < n && product != 0; i++) {
                    product = product * ((x >> i & 1) == 1 ? z[i] : Math.floorMod(1 - z[i], P)) % P;
                }
                sum += product;
            }
            return sum % P;
        }

        long t(long[] z) {
            return extended(0, z) * extended(1, z) % P;
        }

        long[] point() {
            long[] z = new long[n];
            for (int i = 0; i < given.size(); i++) {
                z[i] = given.get(i);
            }
            return z;
        }

        long g(long at) {
            int i = given.size();
            long sum = 0;
            for (int b = 0; b < 1 << n - i - 1; b++) {
                long[] z = point();
                z[i] = at;
                for (int k = i + 1; k < n; k++) {
                    z[k] = b >> k - i - 1 & 1;
                }
                sum += t(z);
            }
            return sum % P;
        }

        void begin() {
            long over = Math.floorMod(running - g(0) - g(1), P);
            // An even number stands for each class: over, or over + P.
            long half = over % 2 == 0 ? over / 2 : (over + P) / 2;
            for (int at = 0; at <= 2; at++) {
                long lie = manner == 1 ? half : manner == 2 ? over * (1 - at) : 0;
                m[at] = Math.floorMod(g(at) + lie, P);
            }
            status = (m[0] + m[1]) % P == running ? 1 : 3;
        }

        int start(int claim) {
            if (claim < 0 || claim > P - 1) {
                return -1;
            }
            forget();
            running = claim;
            begin();
            return status;
        }

        /** Lagrange's form, with the inverse by Fermat's theorem. */
        long interpolated(long r) {
            long sum = 0;
            for (int i = 0; i <= 2; i++) {
                long above = m[i];
                long below = 1;
                for (int k = 0; k <= 2; k++) {
                    if (k != i) {
                        above = above * Math.floorMod(r - k, P) % P;
                        below = below * Math.floorMod((long) i - k, P) % P;
                    }
                }
                sum += above * power(below, P - 2) % P;
            }
            return sum % P;
        }

        static long power(long base, long exponent) {
            long result = 1;
            for (long e = exponent, b = base; e > 0; e /= 2, b = b * b % P) {
                result = e % 2 == 1 ? result * b % P : result;
            }
            return result;
        }

        int challenge(int r) {
            if (status != 1 || r < 0 || r > P - 1) {
                return -1;
            }
            running = interpolated(r);
            given.add((long) r);
            if (given.size() < n) {
                begin();
            } else {
                status = running == t(point()) ? 2 : 3;
            }
            return status;
        }

        long message(int at) {
            return status == 0 || at < 0 || at > 2 ? -1 : m[at];
        }

        long extension(int formula) {
            boolean all = status != 0 && given.size() == n;
            return all && (formula == 0 || formula == 1) ? extended(formula, point()) : -1;
        }
    }
}
