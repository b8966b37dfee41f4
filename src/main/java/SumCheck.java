public final class SumCheck {
    public static final int HONEST = 0;
    public static final int FLAT = 1;
    public static final int STEEP = 2;
    public static final int IDLE = 0;
    public static final int ASKING = 1;
    public static final int ACCEPTED = 2;
    public static final int REJECTED = 3;
    public static final int OK = 0;
    public static final int BAD = -1;
    public static final int FULL = -2;

    private static final long P = 2147483647L;
    // 2 * HALF is P + 1, so multiplying by it halves a field element.
    private static final long HALF = 1073741824L;
    private static final int MOST_VARIABLES = 5;
    private static final int MOST_CLAUSES = 6;
    private static final int MOST_ASSIGNMENTS = 32;
    private static final int FORMULAS = 2;
    private static final int CLAUSE_SLOTS = 12;
    private static final int TABLE_SLOTS = 64;
    private static final int MESSAGE_VALUES = 3;

    private final int variables;
    private final int assignments;

    // Formula f has the slots from f * MOST_CLAUSES on.
    private final int[] clauseCounts = new int[FORMULAS];
    private final int[] positives = new int[CLAUSE_SLOTS];
    private final int[] negatives = new int[CLAUSE_SLOTS];

    private int proverManner = HONEST;

    private int runStatus = IDLE;
    private int challengesGiven = 0;
    private long runningValue = 0;
    private final int[] challenges = new int[MOST_VARIABLES];
    private final long[] sent = new long[MESSAGE_VALUES];

    // Formula f has the slots from f * MOST_ASSIGNMENTS on. Slot j there is F~ at the challenges
    // given, followed by the bits of j for the variables that are still free.
    private final long[] table = new long[TABLE_SLOTS];
    private int tableSize = 0;

    public SumCheck(int variables) {
        int clamped = variables;
        if (clamped < 1) {
            clamped = 1;
        }
        if (clamped > MOST_VARIABLES) {
            clamped = MOST_VARIABLES;
        }
        this.variables = clamped;
        this.assignments = 1 << clamped;
    }

    public int clause(int formula, int pos, int neg) {
        if (!isFormula(formula) || !isVariableSet(pos) || !isVariableSet(neg)) {
            return BAD;
        }
        int count = clauseCounts[formula];
        if (count >= MOST_CLAUSES) {
            return FULL;
        }
        int slot = formula * MOST_CLAUSES + count;
        positives[slot] = pos;
        negatives[slot] = neg;
        clauseCounts[formula] = count + 1;
        forgetRun();
        return OK;
    }

    public int clear(int formula) {
        if (!isFormula(formula)) {
            return BAD;
        }
        clauseCounts[formula] = 0;
        forgetRun();
        return OK;
    }

    public boolean holds(int formula, int x) {
        if (!isFormula(formula) || x < 0 || x >= assignments) {
            return false;
        }
        return isTrue(formula, x);
    }

    public int count() {
        int both = 0;
        for (int x = 0; x < assignments; x++) {
            if (isTrue(0, x) && isTrue(1, x)) {
                both++;
            }
        }
        return both;
    }

    public int manner(int manner) {
        if (manner < HONEST || manner > STEEP) {
            return BAD;
        }
        proverManner = manner;
        return OK;
    }

    public int start(int claim) {
        if (!isFieldElement(claim)) {
            return BAD;
        }
        fillTable(0);
        fillTable(1);
        tableSize = assignments;
        challengesGiven = 0;
        runningValue = claim;
        beginRound();
        return runStatus;
    }

    public int challenge(int r) {
        if (runStatus != ASKING || !isFieldElement(r)) {
            return BAD;
        }
        runningValue = sentPolynomialAt(r);
        // A run is ASKING only while a round, and so a place for its challenge, is left.
        challenges[challengesGiven] = r;
        challengesGiven++;
        bindVariable(0, r);
        bindVariable(1, r);
        tableSize = tableSize / 2;
        if (challengesGiven < variables) {
            beginRound();
        } else {
            endRun();
        }
        return runStatus;
    }

    public int status() {
        return runStatus;
    }

    public int round() {
        return challengesGiven;
    }

    public int message(int t) {
        if (runStatus == IDLE || t < 0 || t >= MESSAGE_VALUES) {
            return BAD;
        }
        return (int) sent[t];
    }

    public int running() {
        if (runStatus == IDLE) {
            return BAD;
        }
        return (int) runningValue;
    }

    public int challengeAt(int k) {
        if (runStatus == IDLE || k < 0 || k >= challengesGiven) {
            return BAD;
        }
        return challenges[k];
    }

    public int extension(int formula) {
        if (runStatus == IDLE || !isFormula(formula) || challengesGiven < variables) {
            return BAD;
        }
        return (int) table[formula * MOST_ASSIGNMENTS];
    }

    private static boolean isFormula(int formula) {
        return formula == 0 || formula == 1;
    }

    private boolean isVariableSet(int set) {
        // By shift, not by size: a negative set has bit 31 and must be refused too.
        return set >>> variables == 0;
    }

    private static boolean isFieldElement(int value) {
        return value >= 0 && value < P;
    }

    private boolean isTrue(int formula, int x) {
        int first = formula * MOST_CLAUSES;
        int end = first + clauseCounts[formula];
        for (int slot = first; slot < end; slot++) {
            if ((x & positives[slot]) == 0 && (~x & negatives[slot]) == 0) {
                return false;
            }
        }
        return true;
    }

    private void forgetRun() {
        runStatus = IDLE;
        challengesGiven = 0;
    }

    private void fillTable(int formula) {
        int first = formula * MOST_ASSIGNMENTS;
        for (int x = 0; x < assignments; x++) {
            table[first + x] = isTrue(formula, x) ? 1 : 0;
        }
    }

    private void beginRound() {
        sendMessage();
        long sum = plus(sent[0], sent[1]);
        runStatus = sum == runningValue ? ASKING : REJECTED;
    }

    private void endRun() {
        long due = times(table[0], table[MOST_ASSIGNMENTS]);
        runStatus = runningValue == due ? ACCEPTED : REJECTED;
    }

    private void sendMessage() {
        sent[0] = honestAt(0);
        sent[1] = honestAt(1);
        sent[2] = honestAt(2);
        long honestSum = plus(sent[0], sent[1]);
        long gap = minus(runningValue, honestSum);
        if (proverManner == FLAT) {
            long e = times(gap, HALF);
            sent[0] = plus(sent[0], e);
            sent[1] = plus(sent[1], e);
            sent[2] = plus(sent[2], e);
        } else if (proverManner == STEEP) {
            sent[0] = plus(sent[0], gap);
            sent[2] = minus(sent[2], gap);
        }
    }

    // g(t) of the round that begins.
    private long honestAt(long t) {
        long sum = 0;
        for (int j = 0; j < tableSize / 2; j++) {
            long a = boundEntry(0, j, t);
            long b = boundEntry(1, j, t);
            long product = times(a, b);
            sum = plus(sum, product);
        }
        return sum;
    }

    private void bindVariable(int formula, long r) {
        int first = formula * MOST_ASSIGNMENTS;
        // Entry j is made from entries 2j and 2j + 1, so going upwards overwrites none still needed.
        for (int j = 0; j < tableSize / 2; j++) {
            table[first + j] = boundEntry(formula, j, r);
        }
    }

    // F~ is linear in each variable, so its values at 0 and 1 of the first free one give all others.
    private long boundEntry(int formula, int j, long z) {
        int slot = formula * MOST_ASSIGNMENTS + 2 * j;
        long rise = minus(table[slot + 1], table[slot]);
        long climbed = times(rise, z);
        return plus(table[slot], climbed);
    }

    // Newton's form: m(0) + r d1 + r (r - 1) / 2 d2, with the first and second differences.
    private long sentPolynomialAt(long r) {
        long firstStep = minus(sent[1], sent[0]);
        long secondStep = minus(sent[2], sent[1]);
        long bend = minus(secondStep, firstStep);
        long before = minus(r, 1);
        long pairs = times(r, before);
        long halfPairs = times(pairs, HALF);
        long straight = times(firstStep, r);
        long curved = times(bend, halfPairs);
        long line = plus(sent[0], straight);
        return plus(line, curved);
    }

    private static long plus(long a, long b) {
        return (a + b) % P;
    }

    private static long minus(long a, long b) {
        return (a - b + P) % P;
    }

    private static long times(long a, long b) {
        return a * b % P;
    }
}
