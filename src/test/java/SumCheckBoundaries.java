import java.util.function.ToIntFunction;

/**
 * For each sentence of the document that names a boundary case (too small, too large, empty, full, a wrap-around, a
 * refused call), a test of its own, which begins with the words of that sentence. What is due is worked out by hand.
 */
public final class SumCheckBoundaries {
    private static final int P = 2147483647;
    private static final int LEAST = Integer.MIN_VALUE;
    private static final int GREATEST = Integer.MAX_VALUE;
    // 2 * HALF is P + 1, and so is 4 * QUARTER: they are the half and the quarter of 1.
    private static final int HALF = 1073741824;
    private static final int QUARTER = 536870912;
    private static final int[] NO_FORMULAS = {LEAST, LEAST + 1, -2, -1, 2, 3, 256, 65536, GREATEST};
    private static final int[] NO_FIELD_ELEMENTS = {LEAST, -P, -2, -1, P};

    private static String place = "";
    private static int tests = 0;
    private static int wrong = 0;

    public static void main(String[] args) {
        whatItIs();
        termsFormulas();
        termsRun();
        promises1To5();
        promises6To8();
        promises9To15();
        System.out.println(wrong == 0 ? tests + " boundary cases: all answers are as due" : wrong + " answers are not as due");
        if (wrong != 0) {
            System.exit(1);
        }
    }

    private static void whatItIs() {
        atMost512Calls();
    }

    private static void termsFormulas() {
        arithmeticModuloP();
        anAssignment();
        variableIsBit();
        atMostSixClauses();
        aClauseIsTrue();
        aFormulaIsTrue();
        extensionAtAssignments();
        extensionOverAllAssignments();
        extensionWrapsAround();
    }

    private static void termsRun() {
        aRunHasNRounds();
        firstTheClaim();
        sumOverTheRest();
        honestProver();
        flatProver();
        steepProver();
        checkWrapsAround();
        checkIsExact();
        endsInThisRound();
        polynomialOfDegreeTwo();
        theRunEnds();
    }

    private static void promises1To5() {
        newObjectHasNoClauses();
        newObjectIsHonest();
        newObjectIsIdle();
        variablesTooFew();
        variablesTooMany();
        variablesAsAsked();
        clauseOfNoFormula();
        clauseWithWrongPos();
        clauseWithWrongNeg();
        clauseWhenFull();
        clauseForgetsTheRun();
        clauseBadChangesNothing();
        clauseFullChangesNothing();
        clearTakesAllAway();
        clearForgetsTheRun();
        clearOfNoFormula();
        holdsForNoFormula();
        holdsForNoAssignment();
        countNoneAndAll();
    }

    private static void promises6To8() {
        mannerFromTheNextMessageOn();
        mannerTouchesNothingSent();
        mannerTooSmallOrLarge();
        startForgetsAnyOther();
        startSendsAtOnce();
        startAnswersTheStatus();
        startAtTheEdges();
        startOutsideTheField();
        challengeWhenNotAsking();
        challengeOutsideTheField();
        challengeAtTheEdges();
        challengeAnswersTheStatus();
    }

    private static void promises9To15() {
        statusEverywhere();
        roundCounts();
        roundWhenIdle();
        messageIsTheLast();
        messageAtTheEdgesOfTheField();
        messageWhenIdle();
        messageOfSomethingElse();
        runningIsTheClaimAtFirst();
        runningWhenIdle();
        challengeAtEachNumber();
        challengeAtWhenIdle();
        challengeAtOutside();
        extensionWhenAllWereGiven();
        extensionWhenTheyWereNot();
        extensionWhenIdle();
        extensionOfNoFormula();
        badBeforeFull();
    }

    // What the tests stand on.

    private static void says(String where, String words) {
        place = where + ", \"" + words + "\": ";
        tests++;
    }

    /** For a sentence that names more than one case: the words of the document, and which case is meant. */
    private static void says(String where, String words, String boundary) {
        says(where, words);
        place += boundary + ": ";
    }

    private static void due(String what, long got, long want) {
        if (got != want) {
            wrong++;
            System.out.println(place + what + " answered " + got + ", due is " + want);
        }
    }

    private static void due(String what, boolean got, boolean want) {
        due(what, got ? 1 : 0, want ? 1 : 0);
    }

    private static void dueMessage(String when, SumCheck s, int m0, int m1, int m2) {
        due(when + ": message(0)", s.message(0), m0);
        due(when + ": message(1)", s.message(1), m1);
        due(when + ": message(2)", s.message(2), m2);
    }

    private static void dueIdle(String when, SumCheck s) {
        due(when + ": status", s.status(), SumCheck.IDLE);
        due(when + ": round", s.round(), 0);
        dueMessage(when, s, SumCheck.BAD, SumCheck.BAD, SumCheck.BAD);
        due(when + ": running", s.running(), SumCheck.BAD);
        due(when + ": challengeAt(0)", s.challengeAt(0), SumCheck.BAD);
        due(when + ": extension(0)", s.extension(0), SumCheck.BAD);
        due(when + ": extension(1)", s.extension(1), SumCheck.BAD);
        due(when + ": challenge(1)", s.challenge(1), SumCheck.BAD);
    }

    /** All the places in which a run of two rounds can stand. */
    private enum Stand {
        NEW(SumCheck.IDLE, 0),
        FORGOTTEN(SumCheck.IDLE, 0),
        FIRST_ROUND(SumCheck.ASKING, 0),
        LAST_ROUND(SumCheck.ASKING, 1),
        ACCEPTED(SumCheck.ACCEPTED, 2),
        REJECTED_AT_ONCE(SumCheck.REJECTED, 0),
        REJECTED_BETWEEN(SumCheck.REJECTED, 1),
        REJECTED_AT_THE_END(SumCheck.REJECTED, 2);

        final int status;
        final int round;

        Stand(int status, int round) {
            this.status = status;
            this.round = round;
        }
    }

    /**
     * Two variables, A: v0 or v1, as often as asked; B: not v0 or v1, as often. Both are true for 2 and 3.
     * Challenges are 7 and 8. A~ = z0 + z1 - z0 z1 and B~ = 1 - z0 + z0 z1, so T(7, 8) is -41 * 50.
     */
    private static SumCheck brought(Stand stand, int clauses) {
        SumCheck s = new SumCheck(2);
        if (stand == Stand.FORGOTTEN) {
            s.start(4);
            s.challenge(7);
            s.challenge(8);
        }
        for (int i = 0; i < clauses; i++) {
            s.clause(0, 3, 0);
            s.clause(1, 2, 1);
        }
        switch (stand) {
            case FIRST_ROUND -> s.start(2);
            case LAST_ROUND -> play(s, 2, 7);
            case ACCEPTED -> play(s, 2, 7, 8);
            case REJECTED_AT_ONCE -> s.start(3);
            case REJECTED_BETWEEN -> {
                s.manner(SumCheck.FLAT);
                s.start(9);
                s.manner(SumCheck.HONEST);
                s.challenge(7);
            }
            case REJECTED_AT_THE_END -> {
                s.manner(SumCheck.STEEP);
                play(s, 9, 7, 8);
            }
            default -> { }
        }
        return s;
    }

    private static SumCheck brought(Stand stand) {
        return brought(stand, 1);
    }

    private static int play(SumCheck s, int claim, int... challenges) {
        int answer = s.start(claim);
        for (int r : challenges) {
            answer = s.challenge(r);
        }
        return answer;
    }

    /** All that can be seen of an object of two variables without changing it. */
    private static String seen(SumCheck s) {
        StringBuilder all = new StringBuilder("[status ").append(s.status()).append(" round ").append(s.round());
        all.append(" message ").append(s.message(0)).append(' ').append(s.message(1)).append(' ').append(s.message(2));
        all.append(" running ").append(s.running());
        all.append(" challenges ").append(s.challengeAt(0)).append(' ').append(s.challengeAt(1));
        all.append(" extensions ").append(s.extension(0)).append(' ').append(s.extension(1)).append(" holds ");
        for (int x = 0; x < 4; x++) {
            all.append(s.holds(0, x) ? 1 : 0).append(s.holds(1, x) ? 1 : 0);
        }
        return all.append(" count ").append(s.count()).append("] ").toString();
    }

    /** What is seen now and while the object is played on: the run's rest, the manner, the room for clauses. */
    private static String seenFromNowOn(SumCheck s) {
        StringBuilder all = new StringBuilder(seen(s));
        all.append("challenge ").append(s.challenge(5)).append(seen(s));
        all.append("challenge ").append(s.challenge(6)).append(seen(s));
        all.append("start ").append(s.start(12)).append(seen(s));
        for (int i = 0; i < 7; i++) {
            all.append("clauses ").append(s.clause(0, 3, 3)).append(s.clause(1, 3, 3));
        }
        return all.append(seen(s)).toString();
    }

    /** The call is refused wherever the run stands, and the object is then as one that never heard it. */
    private static void dueRefusal(String call, int answer, int clauses, ToIntFunction<SumCheck> refused) {
        for (Stand stand : Stand.values()) {
            SumCheck tried = brought(stand, clauses);
            SumCheck untouched = brought(stand, clauses);
            due(call + " at " + stand, refused.applyAsInt(tried), answer);
            String got = seenFromNowOn(tried);
            String want = seenFromNowOn(untouched);
            if (!got.equals(want)) {
                wrong++;
                System.out.println(place + "after " + call + " at " + stand + "\n  " + got + "\n  is seen, due is\n  " + want);
            }
        }
    }

    // What it is.

    private static void atMost512Calls() {
        says("what it is", "An object is used for at most 512 calls after it has been made");
        SumCheck s = brought(Stand.NEW);
        // Two calls were made above; 63 laps of eight and six calls more make 512.
        for (int lap = 0; lap < 63; lap++) {
            due("start in lap " + lap, s.start(2), SumCheck.ASKING);
            due("challenge in lap " + lap, s.challenge(7), SumCheck.ASKING);
            due("last challenge in lap " + lap, s.challenge(8), SumCheck.ACCEPTED);
            due("extension(0) in lap " + lap, s.extension(0), P - 41);
            due("extension(1) in lap " + lap, s.extension(1), 50);
            due("clear in lap " + lap, s.clear(1), SumCheck.OK);
            due("clause in lap " + lap, s.clause(1, 2, 1), SumCheck.OK);
            due("status in lap " + lap, s.status(), SumCheck.IDLE);
        }
        due("call 507, start", s.start(2), SumCheck.ASKING);
        due("call 508, challenge", s.challenge(7), SumCheck.ASKING);
        due("call 509, challenge", s.challenge(8), SumCheck.ACCEPTED);
        due("call 510, message", s.message(1), 1);
        due("call 511, running", s.running(), P - 2050);
        due("call 512, count", s.count(), 2);
        SumCheck crowded = new SumCheck(5);
        for (int call = 1; call <= 511; call++) {
            due("clause, call " + call, crowded.clause(0, 16, 0), call <= 6 ? SumCheck.OK : SumCheck.FULL);
        }
        due("holds, call 512", crowded.holds(0, 16), true);
    }

    // Terms: formulas and extension.

    /** One variable, A: v0, B: not v0. T = z (1 - z), and no assignment satisfies both. */
    private static SumCheck opposites() {
        SumCheck s = new SumCheck(1);
        s.clause(0, 1, 0);
        s.clause(1, 0, 1);
        return s;
    }

    private static void arithmeticModuloP() {
        says("terms", "All arithmetic on field elements is modulo P = 2147483647 (a prime); field elements are the ints 0 .. P - 1.");
        SumCheck s = opposites();
        due("z = P - 1", play(s, 0, P - 1), SumCheck.ACCEPTED);
        dueMessage("T(2) = -2", s, 0, 0, P - 2);
        due("T(-1) = -2", s.running(), P - 2);
        due("A~(-1) = -1", s.extension(0), P - 1);
        due("B~(-1) = 2", s.extension(1), 2);
        due("z = 1 / 2", play(s, 0, HALF), SumCheck.ACCEPTED);
        due("T(1 / 2) = 1 / 4", s.running(), QUARTER);
        due("A~(1 / 2)", s.extension(0), HALF);
        due("B~(1 / 2)", s.extension(1), HALF);
        due("z = 65536, whose square is 2 P + 2", play(s, 0, 65536), SumCheck.ACCEPTED);
        due("T(65536) = 65536 - 2", s.running(), 65534);
        due("z = P - 65536", play(s, 0, P - 65536), SumCheck.ACCEPTED);
        due("T(-65536) = -65536 - 2", s.running(), P - 65538);
    }

    private static void anAssignment() {
        says("terms", "An assignment is an int x from 0 to 2^n - 1");
        for (int n = 1; n <= 5; n++) {
            SumCheck s = new SumCheck(n);
            due(n + " variables: the first", s.holds(0, 0), true);
            due(n + " variables: one below it", s.holds(0, -1), false);
            due(n + " variables: the last", s.holds(1, (1 << n) - 1), true);
            due(n + " variables: one past it", s.holds(1, 1 << n), false);
        }
    }

    private static void variableIsBit() {
        says("terms", "variable i has the value of its bit i");
        for (int i = 0; i < 5; i++) {
            SumCheck s = new SumCheck(5);
            s.clause(0, 1 << i, 0);
            s.clause(1, 0, 1 << i);
            for (int x = 0; x < 32; x++) {
                due("v" + i + " for " + x, s.holds(0, x), (x >> i) % 2 == 1);
                due("not v" + i + " for " + x, s.holds(1, x), (x >> i) % 2 == 0);
            }
            play(s, 0, 101, 102, 103, 104, 105);
            due("v" + i + " takes challenge " + i, s.extension(0), 101 + i);
            due("not v" + i + " takes challenge " + i, s.extension(1), P - 100 - i);
        }
    }

    private static void atMostSixClauses() {
        says("terms", "Each of the two formulas A (0) and B (1) is a list of at most six clauses.");
        SumCheck s = new SumCheck(5);
        for (int i = 0; i < 6; i++) {
            due("A's clause " + i, s.clause(0, 1, 0), SumCheck.OK);
            due("B's clause " + i, s.clause(1, 2, 0), SumCheck.OK);
        }
        due("A's seventh", s.clause(0, 4, 0), SumCheck.FULL);
        due("B's seventh", s.clause(1, 4, 0), SumCheck.FULL);
        for (int x = 0; x < 32; x++) {
            due("A for " + x, s.holds(0, x), x % 2 == 1);
            due("B for " + x, s.holds(1, x), x / 2 % 2 == 1);
        }
    }

    private static void dueClause(String what, int pos, int neg, boolean... want) {
        for (int formula = 0; formula < 2; formula++) {
            SumCheck s = new SumCheck(2);
            s.clause(formula, pos, neg);
            for (int x = 0; x < 4; x++) {
                due(what + " in formula " + formula + " for " + x, s.holds(formula, x), want[x]);
            }
        }
    }

    private static void aClauseIsTrue() {
        says("terms", "A clause (pos, neg) is true for x when some variable in the set pos is 1 or some variable in the set neg is 0");
        dueClause("both sets empty", 0, 0, false, false, false, false);
        dueClause("both sets whole", 3, 3, true, true, true, true);
        dueClause("one variable in both", 1, 1, true, true, true, true);
        dueClause("pos alone", 3, 0, false, true, true, true);
        dueClause("neg alone", 0, 3, true, true, true, false);
        dueClause("one in pos", 2, 0, false, false, true, true);
        dueClause("one in neg", 0, 2, true, true, false, false);
        dueClause("one in each", 1, 2, true, true, false, true);
    }

    private static void aFormulaIsTrue() {
        says("terms", "A formula is true for x when all its clauses are");
        for (int formula = 0; formula < 2; formula++) {
            for (int odd = 0; odd < 6; odd++) {
                SumCheck s = new SumCheck(2);
                for (int i = 0; i < 6; i++) {
                    s.clause(formula, i == odd ? 2 : 3, i == odd ? 0 : 3);
                }
                due("v1 as clause " + odd + " of six, for 1", s.holds(formula, 1), false);
                due("v1 as clause " + odd + " of six, for 2", s.holds(formula, 2), true);
                due("the other, without a clause, for 1", s.holds(1 - formula, 1), true);
            }
        }
    }

    private static void extensionAtAssignments() {
        says("terms", "the product, over all i, of (zi when bit i of x is 1, else 1 - zi)");
        for (int x = 0; x < 8; x++) {
            SumCheck s = new SumCheck(3);
            s.clause(0, 1, 4);
            s.clause(1, 2, 0);
            due("a run to assignment " + x, play(s, 3, x & 1, x >> 1 & 1, x >> 2), SumCheck.ACCEPTED);
            due("A~ at assignment " + x, s.extension(0), (x & 1) == 1 || (x & 4) == 0 ? 1 : 0);
            due("B~ at assignment " + x, s.extension(1), x >> 1 & 1);
        }
    }

    private static void extensionOverAllAssignments() {
        says("terms", "F~(z0, .., z(n-1)) is the sum, over all assignments x, of F(x) times the product");
        for (int n = 1; n <= 5; n++) {
            SumCheck s = new SumCheck(n);
            s.clause(1, 0, 0);
            s.start(0);
            for (int k = 0; k < n; k++) {
                s.challenge(P - 3 - k);
            }
            due(n + " variables: a formula true for all", s.extension(0), 1);
            due(n + " variables: a formula true for none", s.extension(1), 0);
        }
        SumCheck ends = new SumCheck(5);
        for (int i = 0; i < 5; i++) {
            ends.clause(0, 0, 1 << i);
            ends.clause(1, 1 << i, 0);
        }
        play(ends, 0, 2, 3, 5, 7, 11);
        due("true for the first assignment alone", ends.extension(0), P - 480);
        due("true for the last assignment alone", ends.extension(1), 2310);
    }

    private static void extensionWrapsAround() {
        says("terms", "For field elements z0 .. z(n-1)");
        SumCheck s = new SumCheck(5);
        for (int i = 0; i < 5; i++) {
            s.clause(0, 0, 1 << i);
            s.clause(1, 1 << i, 0);
        }
        play(s, 0, P - 1, P - 1, P - 1, P - 1, P - 1);
        due("the greatest elements: 2^5", s.extension(0), 32);
        due("the greatest elements: (-1)^5", s.extension(1), P - 1);
        play(s, 0, 0, 0, 0, 0, 0);
        due("the least elements: 1^5", s.extension(0), 1);
        due("the least elements: 0^5", s.extension(1), 0);
        play(s, 0, HALF, HALF, HALF, HALF, HALF);
        due("halves: 2^-5", s.extension(0), 67108864);
        due("halves again: 2^-5", s.extension(1), 67108864);
    }

    // Terms: a run.

    private static void aRunHasNRounds() {
        says("terms", "A RUN of the protocol has n rounds 0 .. n - 1.");
        for (int n = 1; n <= 5; n++) {
            SumCheck s = new SumCheck(n);
            due(n + " variables: start", s.start(1 << n), SumCheck.ASKING);
            for (int i = 0; i < n; i++) {
                due(n + " variables: before round " + i + " is answered", s.status(), SumCheck.ASKING);
                due(n + " variables: round", s.round(), i);
                s.challenge(P - 1 - i);
            }
            due(n + " variables: after the last round", s.status(), SumCheck.ACCEPTED);
            due(n + " variables: one round more", s.challenge(1), SumCheck.BAD);
        }
    }

    private static void firstTheClaim() {
        says("terms", "There is a running value, first the claim.");
        for (int manner = 0; manner <= 2; manner++) {
            for (int claim : new int[] {0, 1, 4, HALF, P - 1}) {
                SumCheck s = new SumCheck(2);
                s.manner(manner);
                s.start(claim);
                due("manner " + manner + ", claim " + claim, s.running(), claim);
            }
        }
    }

    private static void sumOverTheRest() {
        says("terms", "g(t) is the sum of T(r0, .., r(i-1), t, b(i+1), .., b(n-1)) over all values 0 and 1 of the b's");
        for (int n = 1; n <= 5; n++) {
            SumCheck s = new SumCheck(n);
            s.start(1 << n);
            for (int i = 0; i < n; i++) {
                // The last round has no b's left, and its sum a single term.
                int terms = 1 << n - 1 - i;
                dueMessage(n + " variables, round " + i, s, terms, terms, terms);
                s.challenge(1000 + i);
            }
        }
        SumCheck s = new SumCheck(3);
        s.clause(0, 2, 0);
        s.start(4);
        dueMessage("v1 before its round", s, 2, 2, 2);
        s.challenge(50);
        dueMessage("v1 in its round", s, 0, 2, 4);
        s.challenge(60);
        dueMessage("v1 after its round", s, 60, 60, 60);
    }

    private static void honestProver() {
        says("terms", "HONEST (0)   m(t) = g(t)");
        for (int claim : new int[] {0, 1, 2, 3, P - 1}) {
            SumCheck s = new SumCheck(1);
            s.clause(0, 1, 0);
            s.clause(1, 1, 0);
            s.manner(SumCheck.HONEST);
            s.start(claim);
            dueMessage("t^2, whatever the claim " + claim, s, 0, 1, 4);
        }
    }

    private static void dueSent(int manner, int claim, int m0, int m1, int m2) {
        SumCheck s = new SumCheck(1);
        s.manner(manner);
        due("start(" + claim + ")", s.start(claim), SumCheck.ASKING);
        // Without clauses g is 1 everywhere.
        dueMessage("claim " + claim, s, m0, m1, m2);
    }

    private static void flatProver() {
        says("terms", "FLAT (1)     m(t) = g(t) + e      with 2 e = running value - g(0) - g(1)");
        dueSent(SumCheck.FLAT, 2, 1, 1, 1);
        dueSent(SumCheck.FLAT, 4, 2, 2, 2);
        dueSent(SumCheck.FLAT, 3, HALF + 1, HALF + 1, HALF + 1);
        dueSent(SumCheck.FLAT, 1, HALF, HALF, HALF);
        dueSent(SumCheck.FLAT, 0, 0, 0, 0);
        dueSent(SumCheck.FLAT, P - 1, HALF - 1, HALF - 1, HALF - 1);
        dueSent(SumCheck.FLAT, P - 2, P - 1, P - 1, P - 1);
    }

    private static void steepProver() {
        says("terms", "STEEP (2)    m(t) = g(t) + e * (1 - t)      with e = running value - g(0) - g(1)");
        dueSent(SumCheck.STEEP, 2, 1, 1, 1);
        dueSent(SumCheck.STEEP, 3, 2, 1, 0);
        dueSent(SumCheck.STEEP, 4, 3, 1, P - 1);
        dueSent(SumCheck.STEEP, 1, 0, 1, 2);
        dueSent(SumCheck.STEEP, 0, P - 1, 1, 3);
        dueSent(SumCheck.STEEP, P - 1, P - 2, 1, 4);
    }

    private static void checkWrapsAround() {
        says("terms", "The verifier then checks that m(0) + m(1) is the running value.");
        SumCheck steep = new SumCheck(1);
        steep.manner(SumCheck.STEEP);
        due("(P - 1) + 1 is 0", steep.start(0), SumCheck.ASKING);
        SumCheck flat = new SumCheck(1);
        flat.manner(SumCheck.FLAT);
        due("HALF + HALF is 1", flat.start(1), SumCheck.ASKING);
        due("(P - 1) + (P - 1) is P - 2", flat.start(P - 2), SumCheck.ASKING);
        due("(HALF - 1) + (HALF - 1) is P - 1", flat.start(P - 1), SumCheck.ASKING);
        SumCheck honest = opposites();
        honest.clear(1);
        honest.clause(1, 0, 0);
        due("0 + 0 is 0", honest.start(0), SumCheck.ASKING);
        due("0 + 0 is not P - 1", honest.start(P - 1), SumCheck.REJECTED);
    }

    private static void checkIsExact() {
        says("terms", "If not, the run is REJECTED");
        for (int n = 1; n <= 5; n++) {
            SumCheck s = new SumCheck(n);
            due(n + " variables: one too few", s.start((1 << n) - 1), SumCheck.REJECTED);
            due(n + " variables: right", s.start(1 << n), SumCheck.ASKING);
            due(n + " variables: one too many", s.start((1 << n) + 1), SumCheck.REJECTED);
            due(n + " variables: the negative", s.start(P - (1 << n)), SumCheck.REJECTED);
        }
    }

    private static void endsInThisRound() {
        says("terms", "and ends in this round");
        for (int last = 0; last < 5; last++) {
            SumCheck s = new SumCheck(5);
            s.manner(SumCheck.STEEP);
            s.start(33);
            for (int i = 1; i < last; i++) {
                due("a lie goes on", s.challenge(3), SumCheck.ASKING);
            }
            s.manner(SumCheck.HONEST);
            int answer = last == 0 ? s.start(33) : s.challenge(3);
            due("rejected in round " + last, answer, SumCheck.REJECTED);
            due("no challenge in round " + last, s.challenge(3), SumCheck.BAD);
            due("ended with these challenges", s.round(), last);
            dueMessage("its message", s, 16 >> last, 16 >> last, 16 >> last);
        }
    }

    private static void dueSquare(int r, int square) {
        SumCheck s = new SumCheck(1);
        s.clause(0, 1, 0);
        s.clause(1, 1, 0);
        due("challenge(" + r + ")", play(s, 1, r), SumCheck.ACCEPTED);
        due("running after " + r, s.running(), square);
    }

    private static void polynomialOfDegreeTwo() {
        says("terms", "the running value becomes m(ri), m being the polynomial of degree at most 2 with the three values sent");
        dueSquare(0, 0);
        dueSquare(1, 1);
        dueSquare(2, 4);
        dueSquare(3, 9);
        dueSquare(P - 1, 1);
        dueSquare(P - 2, 4);
        dueSquare(46340, 2147395600);
        dueSquare(46341, 4634);
        dueSquare(65536, 2);
        dueSquare(HALF, QUARTER);
        int[] points = {0, 1, 2, 3, HALF, P - 1};
        int[] onTheLine = {P - 1, 1, 3, 5, 0, P - 3};
        for (int i = 0; i < points.length; i++) {
            SumCheck s = new SumCheck(1);
            s.manner(SumCheck.STEEP);
            play(s, 0, points[i]);
            due("the line 2 t - 1 at " + points[i], s.running(), onTheLine[i]);
            s.manner(SumCheck.FLAT);
            play(s, 6, points[i]);
            due("the constant 3 at " + points[i], s.running(), 3);
        }
    }

    private static void theRunEnds() {
        says("terms", "after round n - 1, instead, the run ends: ACCEPTED when the running value is T(r0, .., r(n-1)), else REJECTED.");
        SumCheck s = new SumCheck(1);
        s.manner(SumCheck.STEEP);
        due("2 is one more than T", play(s, 3, 0), SumCheck.REJECTED);
        due("1 is T", play(s, 3, 1), SumCheck.ACCEPTED);
        due("0 is one less than T", play(s, 3, 2), SumCheck.REJECTED);
        due("a lie of P - 1", play(s, 1, 0), SumCheck.REJECTED);
        SumCheck none = new SumCheck(1);
        none.clause(0, 0, 0);
        due("0 is T", play(none, 0, P - 1), SumCheck.ACCEPTED);
        none.manner(SumCheck.STEEP);
        due("P - 1 is one less than T", play(none, 1, 2), SumCheck.REJECTED);
        due("a product that wraps around", play(opposites(), 0, P - 1), SumCheck.ACCEPTED);
        SumCheck longRun = new SumCheck(5);
        longRun.manner(SumCheck.STEEP);
        due("a lie kept through five rounds", play(longRun, 33, 0, 0, 0, 0, 0), SumCheck.REJECTED);
        due("a lie lost in the last of five", play(longRun, 33, 0, 0, 0, 0, 1), SumCheck.ACCEPTED);
    }

    // Promise 1.

    private static void newObjectHasNoClauses() {
        says("promise 1", "Two formulas without clauses (both true for every assignment)");
        for (int n = 1; n <= 5; n++) {
            SumCheck s = new SumCheck(n);
            for (int x = 0; x < 1 << n; x++) {
                due(n + " variables: holds(0, " + x + ")", s.holds(0, x), true);
                due(n + " variables: holds(1, " + x + ")", s.holds(1, x), true);
            }
            for (int i = 0; i < 6; i++) {
                due(n + " variables: room in A for clause " + i, s.clause(0, 1, 1), SumCheck.OK);
                due(n + " variables: room in B for clause " + i, s.clause(1, 1, 1), SumCheck.OK);
            }
        }
    }

    private static void newObjectIsHonest() {
        says("promise 1", "an HONEST prover");
        SumCheck s = new SumCheck(1);
        due("a false claim", s.start(3), SumCheck.REJECTED);
        dueMessage("a false claim", s, 1, 1, 1);
    }

    private static void newObjectIsIdle() {
        says("promise 1", "no run: IDLE");
        for (int n = 0; n <= 6; n++) {
            dueIdle(n + " variables asked for", new SumCheck(n));
        }
    }

    private static void dueVariables(int asked, int n) {
        String who = "SumCheck(" + asked + "): ";
        SumCheck s = new SumCheck(asked);
        due(who + "count", s.count(), 1 << n);
        due(who + "the last variable", s.clause(0, 1 << n - 1, 1 << n - 1), SumCheck.OK);
        due(who + "one past it", s.clause(0, 1 << n, 0), SumCheck.BAD);
        due(who + "start", s.start(1 << n), SumCheck.ASKING);
        for (int k = 1; k <= n; k++) {
            due(who + "challenge " + k, s.challenge(k), k < n ? SumCheck.ASKING : SumCheck.ACCEPTED);
        }
    }

    private static void variablesTooFew() {
        says("promise 1", "variables: n, clamped to 1 .. 5.", "too few");
        for (int asked : new int[] {LEAST, LEAST + 1, -33, -32, -31, -5, -4, -3, -2, -1, 0}) {
            dueVariables(asked, 1);
        }
    }

    private static void variablesTooMany() {
        says("promise 1", "variables: n, clamped to 1 .. 5.", "too many");
        for (int asked : new int[] {6, 7, 31, 32, 33, 37, 256, 65537, GREATEST}) {
            dueVariables(asked, 5);
        }
    }

    private static void variablesAsAsked() {
        says("promise 1", "variables: n, clamped to 1 .. 5.", "as asked");
        for (int n = 1; n <= 5; n++) {
            dueVariables(n, n);
        }
    }

    // Promise 2.

    private static void clauseOfNoFormula() {
        says("promise 2", "Answers BAD when formula is not 0 or 1");
        for (int formula : NO_FORMULAS) {
            due("clause(" + formula + ", 1, 1)", new SumCheck(2).clause(formula, 1, 1), SumCheck.BAD);
        }
        due("clause(0, 1, 1)", new SumCheck(2).clause(0, 1, 1), SumCheck.OK);
        due("clause(1, 1, 1)", new SumCheck(2).clause(1, 1, 1), SumCheck.OK);
    }

    private static void clauseWithWrongPos() {
        says("promise 2", "or pos or neg has a bit (0 .. 31) for a number that is no variable", "pos");
        for (int n = 1; n <= 5; n++) {
            int whole = (1 << n) - 1;
            for (int bit = 0; bit < 32; bit++) {
                SumCheck s = new SumCheck(n);
                int want = bit < n ? SumCheck.OK : SumCheck.BAD;
                due(n + " variables: pos with bit " + bit, s.clause(0, 1 << bit, 0), want);
                due(n + " variables: pos with bit " + bit + " among others", s.clause(1, whole | 1 << bit, whole), want);
            }
            due(n + " variables: pos of all bits", new SumCheck(n).clause(0, -1, 0), SumCheck.BAD);
            due(n + " variables: empty pos", new SumCheck(n).clause(0, 0, whole), SumCheck.OK);
            due(n + " variables: whole pos", new SumCheck(n).clause(0, whole, 0), SumCheck.OK);
        }
    }

    private static void clauseWithWrongNeg() {
        says("promise 2", "or pos or neg has a bit (0 .. 31) for a number that is no variable", "neg");
        for (int n = 1; n <= 5; n++) {
            int whole = (1 << n) - 1;
            for (int bit = 0; bit < 32; bit++) {
                SumCheck s = new SumCheck(n);
                int want = bit < n ? SumCheck.OK : SumCheck.BAD;
                due(n + " variables: neg with bit " + bit, s.clause(0, 0, 1 << bit), want);
                due(n + " variables: neg with bit " + bit + " among others", s.clause(1, whole, whole | 1 << bit), want);
            }
            due(n + " variables: neg of all bits", new SumCheck(n).clause(0, 0, -1), SumCheck.BAD);
            due(n + " variables: empty neg", new SumCheck(n).clause(0, whole, 0), SumCheck.OK);
            due(n + " variables: whole neg", new SumCheck(n).clause(0, 0, whole), SumCheck.OK);
        }
    }

    private static void clauseWhenFull() {
        says("promise 2", "FULL when the formula has six clauses");
        for (int formula = 0; formula < 2; formula++) {
            SumCheck s = new SumCheck(3);
            for (int i = 1; i <= 6; i++) {
                due("clause " + i + " of formula " + formula, s.clause(formula, 7, 0), SumCheck.OK);
            }
            due("clause 7 of formula " + formula, s.clause(formula, 7, 0), SumCheck.FULL);
            due("clause 8 of formula " + formula, s.clause(formula, 0, 0), SumCheck.FULL);
            for (int i = 1; i <= 6; i++) {
                due("clause " + i + " of the other", s.clause(1 - formula, 7, 0), SumCheck.OK);
            }
            due("clause 7 of the other", s.clause(1 - formula, 7, 0), SumCheck.FULL);
        }
    }

    private static void clauseForgetsTheRun() {
        says("promise 2", "otherwise OK, and any run is forgotten: IDLE");
        for (Stand stand : Stand.values()) {
            for (int formula = 0; formula < 2; formula++) {
                SumCheck s = brought(stand);
                due("a clause at " + stand, s.clause(formula, 0, 2), SumCheck.OK);
                dueIdle("after a clause at " + stand, s);
                SumCheck same = brought(stand);
                due("a clause always true at " + stand, same.clause(formula, 3, 3), SumCheck.OK);
                dueIdle("after a clause always true at " + stand, same);
                SumCheck sixth = brought(stand, 5);
                due("the sixth clause at " + stand, sixth.clause(formula, 3, 3), SumCheck.OK);
                dueIdle("after the sixth clause at " + stand, sixth);
            }
        }
    }

    private static void clauseBadChangesNothing() {
        says("promise 2", "Only OK changes anything.", "BAD does not");
        for (int formula : NO_FORMULAS) {
            dueRefusal("clause(" + formula + ", 0, 0)", SumCheck.BAD, 1, s -> s.clause(formula, 0, 0));
        }
        for (int formula = 0; formula < 2; formula++) {
            int f = formula;
            for (int set : new int[] {4, 7, 32, LEAST, -1}) {
                dueRefusal("clause(" + f + ", " + set + ", 0)", SumCheck.BAD, 1, s -> s.clause(f, set, 0));
                dueRefusal("clause(" + f + ", 0, " + set + ")", SumCheck.BAD, 1, s -> s.clause(f, 0, set));
            }
        }
    }

    private static void clauseFullChangesNothing() {
        says("promise 2", "Only OK changes anything.", "FULL does not");
        dueRefusal("clause(0, 0, 0)", SumCheck.FULL, 6, s -> s.clause(0, 0, 0));
        dueRefusal("clause(1, 0, 0)", SumCheck.FULL, 6, s -> s.clause(1, 0, 0));
        dueRefusal("clause(0, 3, 3)", SumCheck.FULL, 6, s -> s.clause(0, 3, 3));
        dueRefusal("clause(1, 3, 3)", SumCheck.FULL, 6, s -> s.clause(1, 3, 3));
    }

    // Promise 3.

    private static void clearTakesAllAway() {
        says("promise 3", "Takes all clauses of a formula away");
        for (int formula = 0; formula < 2; formula++) {
            for (int clauses = 0; clauses <= 6; clauses++) {
                SumCheck s = new SumCheck(1);
                for (int i = 0; i < clauses; i++) {
                    s.clause(formula, 0, 0);
                }
                s.clause(1 - formula, 1, 0);
                due("clear of " + clauses + " clauses", s.clear(formula), SumCheck.OK);
                due(clauses + " clauses gone", s.holds(formula, 0), true);
                due("the other stands for 0", s.holds(1 - formula, 0), false);
                due("the other stands for 1", s.holds(1 - formula, 1), true);
                for (int i = 1; i <= 7; i++) {
                    due("clause " + i + " after it", s.clause(formula, 1, 0), i <= 6 ? SumCheck.OK : SumCheck.FULL);
                }
                due("the new ones for 0", s.holds(formula, 0), false);
                due("the new ones for 1, and none of the old", s.holds(formula, 1), true);
            }
        }
    }

    private static void clearForgetsTheRun() {
        says("promise 3", "any run is forgotten: IDLE. Answers OK");
        for (Stand stand : Stand.values()) {
            for (int formula = 0; formula < 2; formula++) {
                SumCheck s = brought(stand);
                due("clear at " + stand, s.clear(formula), SumCheck.OK);
                dueIdle("after clear at " + stand, s);
            }
        }
        for (int formula = 0; formula < 2; formula++) {
            SumCheck empty = new SumCheck(2);
            empty.start(4);
            due("clear of an empty formula", empty.clear(formula), SumCheck.OK);
            dueIdle("after clear of an empty formula", empty);
        }
    }

    private static void clearOfNoFormula() {
        says("promise 3", "BAD, changing nothing, when formula is not 0 or 1.");
        for (int formula : NO_FORMULAS) {
            dueRefusal("clear(" + formula + ")", SumCheck.BAD, 1, s -> s.clear(formula));
            dueRefusal("clear(" + formula + ") when full", SumCheck.BAD, 6, s -> s.clear(formula));
        }
    }

    // Promises 4 and 5.

    private static void holdsForNoFormula() {
        says("promise 4", "false when formula is not 0 or 1");
        for (int formula : NO_FORMULAS) {
            for (int x = 0; x < 4; x++) {
                due("holds(" + formula + ", " + x + ")", new SumCheck(2).holds(formula, x), false);
            }
            dueRefusal("holds(" + formula + ", 2)", 0, 1, s -> s.holds(formula, 2) ? 1 : 0);
        }
    }

    private static void holdsForNoAssignment() {
        says("promise 4", "or x is not an assignment");
        for (int n = 1; n <= 5; n++) {
            int size = 1 << n;
            SumCheck s = new SumCheck(n);
            for (int x : new int[] {LEAST, LEAST + 1, -size, -1, size, size + 1, 2 * size - 1, 64, 256, GREATEST}) {
                due(n + " variables: holds(0, " + x + ")", s.holds(0, x), false);
                due(n + " variables: holds(1, " + x + ")", s.holds(1, x), false);
            }
        }
        for (int x : new int[] {LEAST, -1, 4, GREATEST}) {
            dueRefusal("holds(0, " + x + ")", 0, 1, s -> s.holds(0, x) ? 1 : 0);
        }
    }

    private static void countNoneAndAll() {
        says("promise 5", "The number of assignments for which both formulas are true.");
        for (int n = 1; n <= 5; n++) {
            SumCheck s = new SumCheck(n);
            due(n + " variables: all", s.count(), 1 << n);
            s.clause(0, 1, 0);
            due(n + " variables: half of them", s.count(), 1 << n - 1);
            s.clause(1, 0, 1);
            due(n + " variables: never both", s.count(), 0);
            s.clear(0);
            s.clear(1);
            for (int i = 0; i < n; i++) {
                s.clause(i % 2, 1 << i, 0);
            }
            due(n + " variables: the last alone", s.count(), 1);
            s.clear(0);
            s.clear(1);
            for (int i = 0; i < n; i++) {
                s.clause(i % 2, 0, 1 << i);
            }
            due(n + " variables: the first alone", s.count(), 1);
            s.clause(1, 0, 0);
            due(n + " variables: none in B", s.count(), 0);
        }
    }

    // Promise 6.

    private static void mannerFromTheNextMessageOn() {
        says("promise 6", "Sets the manner of the prover, from the next message on.");
        for (Stand stand : Stand.values()) {
            SumCheck s = brought(stand);
            s.clear(0);
            s.clear(1);
            due("FLAT, set at " + stand, s.manner(SumCheck.FLAT), SumCheck.OK);
            due("a FLAT run", s.start(8), SumCheck.ASKING);
            dueMessage("FLAT", s, 4, 4, 4);
            due("STEEP, set in a run", s.manner(SumCheck.STEEP), SumCheck.OK);
            due("the next round", s.challenge(1), SumCheck.ASKING);
            dueMessage("STEEP", s, 3, 1, P - 1);
            due("HONEST, set in the last round", s.manner(SumCheck.HONEST), SumCheck.OK);
            due("no message is left for it", s.challenge(1), SumCheck.ACCEPTED);
            due("an HONEST run", s.start(8), SumCheck.REJECTED);
            dueMessage("HONEST", s, 2, 2, 2);
        }
    }

    private static void mannerTouchesNothingSent() {
        says("promise 6", "from the next message on", "nothing else");
        for (Stand stand : Stand.values()) {
            for (int manner = 0; manner <= 2; manner++) {
                SumCheck s = brought(stand);
                String before = seen(s);
                due("manner(" + manner + ") at " + stand, s.manner(manner), SumCheck.OK);
                due("all else at " + stand + " is as before", seen(s).equals(before), true);
            }
        }
        SumCheck kept = new SumCheck(1);
        kept.manner(SumCheck.STEEP);
        kept.clause(0, 1, 0);
        kept.clear(0);
        due("clause and clear leave the manner", kept.start(3), SumCheck.ASKING);
        dueMessage("still STEEP", kept, 2, 1, 0);
    }

    private static void mannerTooSmallOrLarge() {
        says("promise 6", "BAD, changing nothing, when manner is not 0 .. 2.");
        for (int manner : new int[] {LEAST, -2, -1, 3, 4, 256, 65537, GREATEST}) {
            dueRefusal("manner(" + manner + ")", SumCheck.BAD, 1, s -> s.manner(manner));
        }
        for (int manner = 0; manner <= 2; manner++) {
            SumCheck s = new SumCheck(1);
            due("manner(" + manner + ")", s.manner(manner), SumCheck.OK);
            due("manner(-1) after it", s.manner(-1), SumCheck.BAD);
            due("manner(3) after it", s.manner(3), SumCheck.BAD);
            s.start(4);
            due("manner " + manner + " stands", s.message(0), new int[] {1, 2, 3}[manner]);
        }
    }

    // Promise 7.

    private static void startForgetsAnyOther() {
        says("promise 7", "Begins a run with this claim, forgetting any other: round 0 begins");
        for (Stand stand : Stand.values()) {
            for (int claim = 2; claim <= 3; claim++) {
                SumCheck s = brought(stand);
                s.manner(SumCheck.HONEST);
                due("start(" + claim + ") at " + stand, s.start(claim), claim == 2 ? SumCheck.ASKING : SumCheck.REJECTED);
                due("round", s.round(), 0);
                due("running", s.running(), claim);
                due("challengeAt(0)", s.challengeAt(0), SumCheck.BAD);
                due("challengeAt(1)", s.challengeAt(1), SumCheck.BAD);
                due("extension(0)", s.extension(0), SumCheck.BAD);
                due("extension(1)", s.extension(1), SumCheck.BAD);
                dueMessage("round 0's", s, 1, 1, P - 1);
            }
            SumCheck again = brought(stand);
            due("a whole run at " + stand, play(again, 2, 1, 1), SumCheck.ACCEPTED);
        }
    }

    private static void startSendsAtOnce() {
        says("promise 7", "and the prover sends at once");
        for (int n = 1; n <= 5; n++) {
            SumCheck s = new SumCheck(n);
            s.start(1 << n);
            int half = 1 << n - 1;
            dueMessage(n + " variables", s, half, half, half);
        }
    }

    private static void startAnswersTheStatus() {
        says("promise 7", "Answers the status after the verifier's check (ASKING or REJECTED)");
        SumCheck s = brought(Stand.NEW);
        due("the true claim", s.start(2), SumCheck.ASKING);
        due("the status is the same", s.status(), SumCheck.ASKING);
        due("one too few", s.start(1), SumCheck.REJECTED);
        due("the status is the same", s.status(), SumCheck.REJECTED);
        due("one too many", s.start(3), SumCheck.REJECTED);
    }

    private static void startAtTheEdges() {
        says("promise 7", "when claim is not 0 .. P - 1", "the least and the greatest are claims");
        SumCheck s = brought(Stand.NEW);
        due("start(0)", s.start(0), SumCheck.REJECTED);
        due("running", s.running(), 0);
        due("start(P - 1)", s.start(P - 1), SumCheck.REJECTED);
        due("running", s.running(), P - 1);
        for (int manner = 1; manner <= 2; manner++) {
            s.manner(manner);
            due("start(0), manner " + manner, s.start(0), SumCheck.ASKING);
            due("start(P - 1), manner " + manner, s.start(P - 1), SumCheck.ASKING);
        }
        due("the least claim may be true", opposites().start(0), SumCheck.ASKING);
    }

    private static void startOutsideTheField() {
        says("promise 7", "BAD, changing nothing, when claim is not 0 .. P - 1.");
        for (int claim : NO_FIELD_ELEMENTS) {
            dueRefusal("start(" + claim + ")", SumCheck.BAD, 1, s -> s.start(claim));
        }
        for (int manner = 0; manner <= 2; manner++) {
            SumCheck s = opposites();
            s.manner(manner);
            due("P is not taken for 0, manner " + manner, s.start(P), SumCheck.BAD);
            due("-1 is not taken for P - 1, manner " + manner, s.start(-1), SumCheck.BAD);
            dueIdle("no run", s);
        }
    }

    // Promise 8.

    private static void challengeWhenNotAsking() {
        says("promise 8", "Answers BAD, changing nothing, when the run is not ASKING");
        for (Stand stand : Stand.values()) {
            if (stand.status == SumCheck.ASKING) {
                continue;
            }
            for (int r : new int[] {0, 1, 7, P - 1}) {
                SumCheck s = brought(stand);
                SumCheck untouched = brought(stand);
                due("challenge(" + r + ") at " + stand, s.challenge(r), SumCheck.BAD);
                due("all at " + stand + " is as before", seenFromNowOn(s).equals(seenFromNowOn(untouched)), true);
            }
        }
        SumCheck five = new SumCheck(5);
        play(five, 32, 1, 2, 3, 4, 5);
        due("a sixth challenge", five.challenge(6), SumCheck.BAD);
        due("a seventh", five.challenge(7), SumCheck.BAD);
        due("five stand", five.round(), 5);
        due("the last one", five.challengeAt(4), 5);
    }

    private static void challengeOutsideTheField() {
        says("promise 8", "or r is not 0 .. P - 1");
        for (int r : NO_FIELD_ELEMENTS) {
            dueRefusal("challenge(" + r + ")", SumCheck.BAD, 1, s -> s.challenge(r));
        }
    }

    private static void challengeAtTheEdges() {
        says("promise 8", "r is not 0 .. P - 1", "the least and the greatest are challenges");
        SumCheck s = brought(Stand.NEW);
        s.start(2);
        due("challenge(0)", s.challenge(0), SumCheck.ASKING);
        due("T summed at z0 = 0", s.running(), 1);
        due("challenge(P - 1)", s.challenge(P - 1), SumCheck.ACCEPTED);
        due("T(0, -1)", s.running(), P - 1);
        due("A~(0, -1)", s.extension(0), P - 1);
        due("B~(0, -1)", s.extension(1), 1);
        s.start(2);
        due("challenge(P - 1) first", s.challenge(P - 1), SumCheck.ASKING);
        due("T summed at z0 = -1", s.running(), P - 1);
        due("challenge(0) then", s.challenge(0), SumCheck.ACCEPTED);
        due("T(-1, 0)", s.running(), P - 2);
        due("A~(-1, 0)", s.extension(0), P - 1);
        due("B~(-1, 0)", s.extension(1), 2);
    }

    private static void challengeAnswersTheStatus() {
        says("promise 8", "Otherwise the status after everything that follows: the next round's message and its check, or the end of the run.");
        SumCheck next = brought(Stand.FIRST_ROUND);
        due("the next round is asking", next.challenge(7), SumCheck.ASKING);
        dueMessage("the next round's message", next, P - 42, 1, P - 40);
        due("the end is accepted", next.challenge(8), SumCheck.ACCEPTED);
        SumCheck caught = brought(Stand.FIRST_ROUND);
        caught.manner(SumCheck.STEEP);
        caught.start(3);
        caught.manner(SumCheck.HONEST);
        due("the next round is rejected", caught.challenge(0), SumCheck.REJECTED);
        due("the status is the same", caught.status(), SumCheck.REJECTED);
        SumCheck lucky = brought(Stand.FIRST_ROUND);
        lucky.manner(SumCheck.STEEP);
        lucky.start(3);
        lucky.manner(SumCheck.HONEST);
        due("the lie is lost at 1", lucky.challenge(1), SumCheck.ASKING);
        SumCheck atTheEnd = brought(Stand.FIRST_ROUND);
        atTheEnd.manner(SumCheck.FLAT);
        due("the end is rejected", play(atTheEnd, 3, 7, 8), SumCheck.REJECTED);
        SumCheck single = new SumCheck(1);
        due("one round alone: the end at once", play(single, 2, 9), SumCheck.ACCEPTED);
    }

    // Promises 9 and 10.

    private static void statusEverywhere() {
        says("promise 9", "IDLE, ASKING, ACCEPTED or REJECTED.");
        for (Stand stand : Stand.values()) {
            SumCheck s = brought(stand);
            due("at " + stand, s.status(), stand.status);
            due("asked again at " + stand, s.status(), stand.status);
        }
    }

    private static void roundCounts() {
        says("promise 10", "The number of challenges given in this run");
        for (Stand stand : Stand.values()) {
            due("at " + stand, brought(stand).round(), stand.round);
        }
        for (int n = 1; n <= 5; n++) {
            SumCheck s = new SumCheck(n);
            s.start(1 << n);
            for (int k = 0; k < n; k++) {
                due(n + " variables: before challenge " + k, s.round(), k);
                s.challenge(-1);
                due(n + " variables: after a refused one", s.round(), k);
                s.challenge(5);
            }
            due(n + " variables: all", s.round(), n);
            s.challenge(5);
            due(n + " variables: never more", s.round(), n);
            s.start(1 << n);
            due(n + " variables: of this run alone", s.round(), 0);
        }
    }

    private static void roundWhenIdle() {
        says("promise 10", "0 when IDLE");
        due("new", new SumCheck(3).round(), 0);
        for (int given = 0; given <= 3; given++) {
            SumCheck s = new SumCheck(3);
            s.start(8);
            for (int k = 0; k < given; k++) {
                s.challenge(k);
            }
            s.clear(0);
            due("a run of " + given + " challenges, cleared", s.round(), 0);
            s.start(8);
            for (int k = 0; k < given; k++) {
                s.challenge(k);
            }
            s.clause(1, 7, 7);
            due("a run of " + given + " challenges, and a clause", s.round(), 0);
        }
    }

    // Promises 11 and 12.

    private static void messageIsTheLast() {
        says("promise 11", "m(t) of the last message sent in this run, t being 0, 1 or 2");
        dueMessage("in round 0", brought(Stand.FIRST_ROUND), 1, 1, P - 1);
        dueMessage("in round 1", brought(Stand.LAST_ROUND), P - 42, 1, P - 40);
        dueMessage("accepted: none was sent after it", brought(Stand.ACCEPTED), P - 42, 1, P - 40);
        dueMessage("rejected in round 0", brought(Stand.REJECTED_AT_ONCE), 1, 1, P - 1);
        dueMessage("rejected in round 1", brought(Stand.REJECTED_BETWEEN), P - 42, 1, P - 40);
        // The lie is 7 * (1 - 7) in round 1.
        dueMessage("rejected at the end", brought(Stand.REJECTED_AT_THE_END), P - 84, 1, 2);
    }

    private static void messageAtTheEdgesOfTheField() {
        says("promise 11", "m(t) of the last message", "the least and the greatest field element");
        SumCheck s = new SumCheck(1);
        s.manner(SumCheck.STEEP);
        s.start(0);
        due("-1", s.message(0), P - 1);
        s.start(1);
        due("0, not P", s.message(0), 0);
        s.start(3);
        due("0 at 2, not P", s.message(2), 0);
        s.start(4);
        due("-1 at 2", s.message(2), P - 1);
        s.manner(SumCheck.FLAT);
        s.start(0);
        dueMessage("0 everywhere", s, 0, 0, 0);
        s.start(P - 2);
        dueMessage("-1 everywhere", s, P - 1, P - 1, P - 1);
    }

    private static void messageWhenIdle() {
        says("promise 11", "BAD when IDLE");
        dueMessage("new", brought(Stand.NEW), SumCheck.BAD, SumCheck.BAD, SumCheck.BAD);
        dueMessage("forgotten", brought(Stand.FORGOTTEN), SumCheck.BAD, SumCheck.BAD, SumCheck.BAD);
        for (Stand stand : Stand.values()) {
            SumCheck s = brought(stand);
            s.clear(1);
            dueMessage("cleared at " + stand, s, SumCheck.BAD, SumCheck.BAD, SumCheck.BAD);
        }
    }

    private static void messageOfSomethingElse() {
        says("promise 11", "or t is something else");
        for (int t : new int[] {LEAST, LEAST + 1, -2, -1, 3, 4, 256, 65536, GREATEST}) {
            dueRefusal("message(" + t + ")", SumCheck.BAD, 1, s -> s.message(t));
        }
    }

    private static void runningIsTheClaimAtFirst() {
        says("promise 12", "The running value (the claim, as long as no challenge was given)");
        for (int manner = 0; manner <= 2; manner++) {
            for (int claim : new int[] {0, 1, 2, 3, P - 1}) {
                SumCheck s = brought(Stand.NEW);
                s.manner(manner);
                s.start(claim);
                due("claim " + claim + ", manner " + manner, s.running(), claim);
                s.challenge(-1);
                due("after a refused challenge", s.running(), claim);
            }
        }
        due("after one challenge", brought(Stand.LAST_ROUND).running(), P - 41);
        due("accepted", brought(Stand.ACCEPTED).running(), P - 2050);
        due("rejected at once", brought(Stand.REJECTED_AT_ONCE).running(), 3);
        // g(7) is -41, and FLAT's lie of 7 halves is 4 - 1 / 2.
        due("rejected between", brought(Stand.REJECTED_BETWEEN).running(), P - 37 - HALF);
        due("rejected at the end", brought(Stand.REJECTED_AT_THE_END).running(), P - 2050 + 294);
    }

    private static void runningWhenIdle() {
        says("promise 12", "BAD when IDLE");
        for (Stand stand : Stand.values()) {
            SumCheck s = brought(stand);
            if (stand.status == SumCheck.IDLE) {
                due("at " + stand, s.running(), SumCheck.BAD);
            }
            s.clause(0, 3, 3);
            due("a clause at " + stand, s.running(), SumCheck.BAD);
        }
    }

    // Promise 13.

    private static void challengeAtEachNumber() {
        says("promise 13", "Challenge number k of this run");
        int[] given = {0, P - 1, 1, HALF, P - 2};
        for (int n = 1; n <= 5; n++) {
            SumCheck s = new SumCheck(n);
            s.start(1 << n);
            for (int k = 0; k < n; k++) {
                s.challenge(given[k]);
                for (int i = 0; i <= k; i++) {
                    due(n + " variables: challengeAt(" + i + ") of " + (k + 1), s.challengeAt(i), given[i]);
                }
            }
            s.start(1 << n);
            s.challenge(6);
            due(n + " variables: of this run, not the last", s.challengeAt(0), 6);
        }
        due("rejected between", brought(Stand.REJECTED_BETWEEN).challengeAt(0), 7);
        due("rejected at the end", brought(Stand.REJECTED_AT_THE_END).challengeAt(1), 8);
    }

    private static void challengeAtWhenIdle() {
        says("promise 13", "BAD when IDLE");
        for (Stand stand : Stand.values()) {
            SumCheck s = brought(stand);
            s.clear(0);
            for (int k = -1; k <= 2; k++) {
                due("challengeAt(" + k + "), cleared at " + stand, s.challengeAt(k), SumCheck.BAD);
            }
        }
        due("new", new SumCheck(2).challengeAt(0), SumCheck.BAD);
    }

    private static void challengeAtOutside() {
        says("promise 13", "or k is not 0 .. round() - 1");
        for (int k : new int[] {LEAST, LEAST + 1, -2, -1, 2, 3, 5, 256, 65536, GREATEST}) {
            dueRefusal("challengeAt(" + k + ")", SumCheck.BAD, 1, s -> s.challengeAt(k));
        }
        for (int n = 1; n <= 5; n++) {
            SumCheck s = new SumCheck(n);
            play(s, 1 << n, 11);
            for (int k = 1; k < n; k++) {
                s.challenge(11 + k);
            }
            due(n + " variables: the last of an old run", s.challengeAt(n - 1), 10 + n);
            s.start(1 << n);
            for (int k = 0; k < n; k++) {
                for (int past = k; past <= 5; past++) {
                    due(n + " variables: challengeAt(" + past + ") when " + k + " were given", s.challengeAt(past), SumCheck.BAD);
                }
                s.challenge(21 + k);
            }
            due(n + " variables: one past the last", s.challengeAt(n), SumCheck.BAD);
        }
    }

    // Promise 14.

    private static void extensionWhenAllWereGiven() {
        says("promise 14", "F~ at the challenges r0 .. r(n-1), when all n were given in this run");
        SumCheck accepted = brought(Stand.ACCEPTED);
        due("A~(7, 8), accepted", accepted.extension(0), P - 41);
        due("B~(7, 8), accepted", accepted.extension(1), 50);
        SumCheck rejected = brought(Stand.REJECTED_AT_THE_END);
        due("A~(7, 8), rejected", rejected.extension(0), P - 41);
        due("B~(7, 8), rejected", rejected.extension(1), 50);
        SumCheck single = new SumCheck(1);
        single.clause(0, 1, 0);
        play(single, 1, P - 1);
        due("one variable, A~(-1)", single.extension(0), P - 1);
        due("one variable, B~(-1)", single.extension(1), 1);
        accepted.manner(SumCheck.FLAT);
        due("the manner does not matter", accepted.extension(0), P - 41);
    }

    private static void extensionWhenTheyWereNot() {
        says("promise 14", "BAD when they were not");
        for (int n = 1; n <= 5; n++) {
            SumCheck s = new SumCheck(n);
            for (int run = 0; run < 2; run++) {
                s.start(1 << n);
                for (int k = 0; k < n; k++) {
                    due(n + " variables, run " + run + ": A~ after " + k, s.extension(0), SumCheck.BAD);
                    due(n + " variables, run " + run + ": B~ after " + k, s.extension(1), SumCheck.BAD);
                    s.challenge(9);
                }
                due(n + " variables, run " + run + ": A~ after all", s.extension(0), 1);
                due(n + " variables, run " + run + ": B~ after all", s.extension(1), 1);
            }
        }
        for (Stand stand : new Stand[] {Stand.REJECTED_AT_ONCE, Stand.REJECTED_BETWEEN}) {
            due("A~ at " + stand, brought(stand).extension(0), SumCheck.BAD);
            due("B~ at " + stand, brought(stand).extension(1), SumCheck.BAD);
        }
        SumCheck replaced = brought(Stand.ACCEPTED);
        replaced.start(3);
        due("A~ of the run before", replaced.extension(0), SumCheck.BAD);
        due("B~ of the run before", replaced.extension(1), SumCheck.BAD);
    }

    private static void extensionWhenIdle() {
        says("promise 14", "when IDLE");
        for (Stand stand : Stand.values()) {
            SumCheck cleared = brought(stand);
            cleared.clear(0);
            due("A~, cleared at " + stand, cleared.extension(0), SumCheck.BAD);
            due("B~, cleared at " + stand, cleared.extension(1), SumCheck.BAD);
            SumCheck added = brought(stand);
            added.clause(0, 3, 3);
            due("A~, a clause at " + stand, added.extension(0), SumCheck.BAD);
            due("B~, a clause at " + stand, added.extension(1), SumCheck.BAD);
        }
        due("A~, new", new SumCheck(1).extension(0), SumCheck.BAD);
        due("B~, new", new SumCheck(1).extension(1), SumCheck.BAD);
    }

    private static void extensionOfNoFormula() {
        says("promise 14", "or when formula is not 0 or 1");
        for (int formula : NO_FORMULAS) {
            dueRefusal("extension(" + formula + ")", SumCheck.BAD, 1, s -> s.extension(formula));
        }
    }

    // Promise 15.

    private static void badBeforeFull() {
        says("promise 15", "clause tests BAD before FULL.");
        for (int formula = 0; formula < 2; formula++) {
            int f = formula;
            for (int set : new int[] {4, 7, 1 << 30, LEAST, -1}) {
                dueRefusal("clause(" + f + ", " + set + ", 0), full", SumCheck.BAD, 6, s -> s.clause(f, set, 0));
                dueRefusal("clause(" + f + ", 0, " + set + "), full", SumCheck.BAD, 6, s -> s.clause(f, 0, set));
            }
        }
        for (int formula : NO_FORMULAS) {
            dueRefusal("clause(" + formula + ", 1, 1), full", SumCheck.BAD, 6, s -> s.clause(formula, 1, 1));
        }
        due("nothing BAD about it: FULL", brought(Stand.NEW, 6).clause(0, 1, 1), SumCheck.FULL);
    }
}
