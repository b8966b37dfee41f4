/** One part for each promise of the document: ordinary inputs, the edges it names, wrong inputs. */
public final class SumCheckPromises {
    private static final int P = 2147483647;
    private static int wrong = 0;

    private static void due(String what, long got, long want) {
        if (got != want) {
            wrong++;
            System.out.println(what + " answered " + got + ", due is " + want);
        }
    }

    private static void due(String what, boolean got, boolean want) {
        due(what, got ? 1 : 0, want ? 1 : 0);
    }

    public static void main(String[] args) {
        promise1NewObject();
        promise1Clamp();
        promise2Clause();
        promise2OnlyOkChanges();
        promise3Clear();
        promise4Holds();
        promise5Count();
        promise6Manner();
        promise6MannerFromNextMessageOn();
        promise7Start();
        promise8Challenge();
        promise8CheatersCaughtAtTheEnd();
        promise9Status();
        promise10Round();
        promise11Message();
        promise12Running();
        promise13ChallengeAt();
        promise14Extension();
        promise15Order();
        System.out.println(wrong == 0 ? "all answers are as due" : wrong + " answers are not as due");
        if (wrong != 0) {
            System.exit(1);
        }
    }

    /** What an object without a run answers, whatever was called before. */
    private static void dueIdle(String when, SumCheck s) {
        due(when + ": status", s.status(), SumCheck.IDLE);
        due(when + ": round", s.round(), 0);
        for (int t = -1; t <= 3; t++) {
            due(when + ": message(" + t + ")", s.message(t), SumCheck.BAD);
        }
        due(when + ": running", s.running(), SumCheck.BAD);
        for (int k = -1; k <= 5; k++) {
            due(when + ": challengeAt(" + k + ")", s.challengeAt(k), SumCheck.BAD);
        }
        for (int f = -1; f <= 2; f++) {
            due(when + ": extension(" + f + ")", s.extension(f), SumCheck.BAD);
        }
        due(when + ": challenge(1)", s.challenge(1), SumCheck.BAD);
        due(when + ": status again", s.status(), SumCheck.IDLE);
    }

    /** Two variables, A: v0 or v1; B: not v0 or v1. Both are true for x = 2 and x = 3. */
    private static SumCheck twoClauses() {
        SumCheck s = new SumCheck(2);
        due("A's clause", s.clause(0, 3, 0), SumCheck.OK);
        due("B's clause", s.clause(1, 2, 1), SumCheck.OK);
        return s;
    }

    private static void promise1NewObject() {
        SumCheck s = new SumCheck(3);
        dueIdle("1 new", s);
        for (int x = 0; x < 8; x++) {
            due("1 new: holds(0, " + x + ")", s.holds(0, x), true);
            due("1 new: holds(1, " + x + ")", s.holds(1, x), true);
        }
        due("1 new: count", s.count(), 8);
        due("1 new: an honest prover disowns a false claim", s.start(7), SumCheck.REJECTED);
        due("1 new: and stands by a true one", s.start(8), SumCheck.ASKING);
    }

    private static void promise1Clamp() {
        int[] asked = {Integer.MIN_VALUE, -1, 0, 1, 2, 3, 4, 5, 6, 32, 33, Integer.MAX_VALUE};
        int[] got = {1, 1, 1, 1, 2, 3, 4, 5, 5, 5, 5, 5};
        for (int i = 0; i < asked.length; i++) {
            String who = "1 new SumCheck(" + asked[i] + "): ";
            SumCheck s = new SumCheck(asked[i]);
            int size = 1 << got[i];
            due(who + "count", s.count(), size);
            due(who + "last assignment", s.holds(0, size - 1), true);
            due(who + "one past it", s.holds(0, size), false);
            due(who + "clause past the variables", s.clause(0, size, 0), SumCheck.BAD);
            due(who + "start", s.start(size), SumCheck.ASKING);
            for (int k = 1; k <= got[i]; k++) {
                due(who + "challenge " + k, s.challenge(k), k < got[i] ? SumCheck.ASKING : SumCheck.ACCEPTED);
            }
            due(who + "no challenge more", s.challenge(1), SumCheck.BAD);
        }
    }

    private static void promise2Clause() {
        SumCheck s = new SumCheck(3);
        due("2 ordinary", s.clause(0, 1, 4), SumCheck.OK);
        for (int x = 0; x < 8; x++) {
            due("2 v0 or not v2, x = " + x, s.holds(0, x), (x & 1) != 0 || (x & 4) == 0);
            due("2 B is untouched, x = " + x, s.holds(1, x), true);
        }
        for (int formula : new int[] {-1, 2, 3, Integer.MIN_VALUE, Integer.MAX_VALUE}) {
            due("2 clause(" + formula + ", 1, 1)", s.clause(formula, 1, 1), SumCheck.BAD);
        }
        for (int bit = 0; bit < 32; bit++) {
            SumCheck fresh = new SumCheck(3);
            int want = bit < 3 ? SumCheck.OK : SumCheck.BAD;
            due("2 pos with bit " + bit, fresh.clause(0, 1 << bit, 0), want);
            due("2 neg with bit " + bit, fresh.clause(1, 0, 1 << bit), want);
            due("2 pos with bit " + bit + " among others", fresh.clause(1, 7 | 1 << bit, 7), want);
            due("2 neg with bit " + bit + " among others", fresh.clause(0, 7, 7 | 1 << bit), want);
        }
        due("2 all bits", s.clause(0, -1, 0), SumCheck.BAD);
        SumCheck empty = new SumCheck(2);
        due("2 the empty clause", empty.clause(1, 0, 0), SumCheck.OK);
        for (int x = 0; x < 4; x++) {
            due("2 the empty clause is false for " + x, empty.holds(1, x), false);
        }
        for (int formula = 0; formula < 2; formula++) {
            SumCheck full = new SumCheck(5);
            for (int i = 0; i < 6; i++) {
                due("2 clause " + i + " of " + formula, full.clause(formula, 31, 31), SumCheck.OK);
            }
            due("2 the seventh of " + formula, full.clause(formula, 31, 31), SumCheck.FULL);
            due("2 the eighth of " + formula, full.clause(formula, 0, 0), SumCheck.FULL);
            due("2 the other has room", full.clause(1 - formula, 0, 0), SumCheck.OK);
            due("2 it alone is false", full.holds(formula, 0), true);
            due("2 the other is false", full.holds(1 - formula, 0), false);
        }
        sixClausesEachCount();
    }

    private static void sixClausesEachCount() {
        for (int formula = 0; formula < 2; formula++) {
            SumCheck s = new SumCheck(5);
            for (int i = 0; i < 5; i++) {
                s.clause(formula, 1 << i, 0);
            }
            s.clause(formula, 0, 16);
            for (int x = 0; x < 32; x++) {
                due("2 six clauses that exclude each other, x = " + x, s.holds(formula, x), false);
            }
            due("2 the other is still without clauses", s.holds(1 - formula, 0), true);
        }
    }

    private static void promise2OnlyOkChanges() {
        SumCheck s = twoClauses();
        for (int i = 0; i < 5; i++) {
            s.clause(0, 3, 0);
        }
        s.start(2);
        s.challenge(10);
        int[] wrongCalls = {s.clause(2, 0, 0), s.clause(-1, 0, 0), s.clause(1, 4, 0), s.clause(1, 0, 4), s.clause(0, 0, 0)};
        int[] answers = {SumCheck.BAD, SumCheck.BAD, SumCheck.BAD, SumCheck.BAD, SumCheck.FULL};
        for (int i = 0; i < answers.length; i++) {
            due("2 wrong call " + i, wrongCalls[i], answers[i]);
        }
        due("2 the run goes on", s.status(), SumCheck.ASKING);
        due("2 its round stands", s.round(), 1);
        due("2 its challenge stands", s.challengeAt(0), 10);
        due("2 the formulas stand", s.count(), 2);
        due("2 the run ends well", s.challenge(20), SumCheck.ACCEPTED);
        due("2 OK", s.clause(1, 3, 3), SumCheck.OK);
        dueIdle("2 after OK", s);
    }

    private static void promise3Clear() {
        for (int formula = 0; formula < 2; formula++) {
            SumCheck s = new SumCheck(2);
            for (int i = 0; i < 6; i++) {
                s.clause(0, 1, 0);
                s.clause(1, 1, 0);
            }
            s.start(2);
            for (int bad : new int[] {-1, 2, Integer.MIN_VALUE, Integer.MAX_VALUE}) {
                due("3 clear(" + bad + ")", s.clear(bad), SumCheck.BAD);
            }
            due("3 BAD leaves the run", s.status(), SumCheck.ASKING);
            due("3 BAD leaves the formulas", s.count(), 2);
            due("3 BAD leaves A's clauses", s.clause(0, 1, 0), SumCheck.FULL);
            due("3 clear", s.clear(formula), SumCheck.OK);
            dueIdle("3 after clear(" + formula + ")", s);
            due("3 cleared", s.holds(formula, 0), true);
            due("3 the other is not", s.holds(1 - formula, 0), false);
            due("3 the other is full", s.clause(1 - formula, 1, 0), SumCheck.FULL);
            for (int i = 0; i < 6; i++) {
                due("3 room again " + i, s.clause(formula, 2, 0), SumCheck.OK);
            }
            due("3 full again", s.clause(formula, 2, 0), SumCheck.FULL);
            due("3 only the new clauses", s.holds(formula, 2), true);
            due("3 a formula without clauses can be cleared", new SumCheck(1).clear(formula), SumCheck.OK);
        }
        SumCheck s = new SumCheck(2);
        s.manner(SumCheck.STEEP);
        s.clear(0);
        due("3 the manner stays", s.start(77), SumCheck.ASKING);
    }

    private static void promise4Holds() {
        SumCheck s = twoClauses();
        boolean[] a = {false, true, true, true};
        boolean[] b = {true, false, true, true};
        for (int x = 0; x < 4; x++) {
            due("4 holds(0, " + x + ")", s.holds(0, x), a[x]);
            due("4 holds(1, " + x + ")", s.holds(1, x), b[x]);
        }
        SumCheck open = new SumCheck(2);
        for (int x : new int[] {-1, 4, 5, 7, Integer.MIN_VALUE, Integer.MAX_VALUE}) {
            due("4 holds(0, " + x + ")", open.holds(0, x), false);
            due("4 holds(1, " + x + ")", open.holds(1, x), false);
        }
        for (int formula : new int[] {-1, 2, 6, Integer.MIN_VALUE, Integer.MAX_VALUE}) {
            due("4 holds(" + formula + ", 0)", open.holds(formula, 0), false);
        }
        s.start(2);
        s.holds(0, 1);
        s.holds(9, 9);
        due("4 a run is left alone", s.status(), SumCheck.ASKING);
    }

    private static void promise5Count() {
        SumCheck s = twoClauses();
        due("5 both at once", s.count(), 2);
        s.start(2);
        s.challenge(123);
        due("5 in a run", s.count(), 2);
        due("5 the run is left alone", s.challenge(5), SumCheck.ACCEPTED);
        due("5 after a run", s.count(), 2);
        s.clause(1, 0, 2);
        due("5 none", s.count(), 0);
        s.clear(1);
        due("5 A alone", s.count(), 3);
        s.clear(0);
        due("5 all", s.count(), 4);
        SumCheck apart = new SumCheck(5);
        apart.clause(0, 16, 0);
        apart.clause(1, 0, 16);
        due("5 each is true often, but never both", apart.count(), 0);
        due("5 most", new SumCheck(5).count(), 32);
    }

    private static void promise6Manner() {
        for (int manner = 0; manner <= 2; manner++) {
            SumCheck s = twoClauses();
            due("6 manner(" + manner + ")", s.manner(manner), SumCheck.OK);
            for (int bad : new int[] {-1, 3, 4, Integer.MIN_VALUE, Integer.MAX_VALUE}) {
                due("6 manner(" + bad + ")", s.manner(bad), SumCheck.BAD);
            }
            due("6 a false claim", s.start(9), manner == 0 ? SumCheck.REJECTED : SumCheck.ASKING);
            // g is 1, 1, -1; the claim is 7 too much, of which FLAT's e is the half.
            int e = (int) (7L * 1073741824L % P);
            int[][] messages = {{1, 1, P - 1}, {1 + e, 1 + e, e - 1}, {8, 1, P - 8}};
            for (int t = 0; t <= 2; t++) {
                due("6 manner " + manner + ", message(" + t + ")", s.message(t), messages[manner][t]);
            }
        }
    }

    private static void promise6MannerFromNextMessageOn() {
        SumCheck s = new SumCheck(2);
        s.manner(SumCheck.STEEP);
        due("6 start(10)", s.start(10), SumCheck.ASKING);
        due("6 change", s.manner(SumCheck.HONEST), SumCheck.OK);
        due("6 the message sent stands", s.message(0), 8);
        due("6 so does the status", s.status(), SumCheck.ASKING);
        due("6 and the running value", s.running(), 10);
        due("6 the next message is honest", s.challenge(0), SumCheck.REJECTED);
        due("6 honest m(0)", s.message(0), 1);
        due("6 running is m(0) of the steep message", s.running(), 8);
        due("6 wakes no ended run", s.manner(SumCheck.FLAT), SumCheck.OK);
        due("6 still rejected", s.status(), SumCheck.REJECTED);
        due("6 flat from now on", s.start(10), SumCheck.ASKING);
        due("6 flat m(0)", s.message(0), 5);
        due("6 a wrong manner is none", s.manner(3), SumCheck.BAD);
        due("6 flat m(0) of round 1", s.challenge(3), SumCheck.ASKING);
        due("6 the lie of 5 is shared", s.message(0), (int) (5L * 1073741824L % P));
        SumCheck idle = new SumCheck(2);
        idle.manner(SumCheck.FLAT);
        dueIdle("6 manner begins no run", idle);
        idle.start(4);
        idle.clause(0, 1, 0);
        due("6 clause leaves the manner", idle.start(3), SumCheck.ASKING);
    }

    private static void promise7Start() {
        SumCheck s = twoClauses();
        due("7 the true claim", s.start(2), SumCheck.ASKING);
        due("7 sends at once, m(0)", s.message(0), 1);
        due("7 m(1)", s.message(1), 1);
        due("7 running", s.running(), 2);
        s.challenge(4);
        for (int bad : new int[] {-1, P, Integer.MIN_VALUE, -P}) {
            due("7 start(" + bad + ")", s.start(bad), SumCheck.BAD);
        }
        due("7 BAD leaves the run", s.status(), SumCheck.ASKING);
        due("7 its round", s.round(), 1);
        due("7 its challenge", s.challengeAt(0), 4);
        due("7 and its end", s.challenge(6), SumCheck.ACCEPTED);
        due("7 a new run", s.start(2), SumCheck.ASKING);
        due("7 forgets the challenges", s.round(), 0);
        due("7 all of them", s.challengeAt(0), SumCheck.BAD);
        due("7 and the extension", s.extension(0), SumCheck.BAD);
        due("7 the message is round 0's", s.message(2), P - 1);
        s.challenge(1);
        due("7 a new run amid another", s.start(3), SumCheck.REJECTED);
        due("7 round 0", s.round(), 0);
        due("7 the least claim", s.start(0), SumCheck.REJECTED);
        due("7 the greatest claim", s.start(P - 1), SumCheck.REJECTED);
        due("7 running after it", s.running(), P - 1);
        s.manner(SumCheck.STEEP);
        due("7 the greatest claim, steep", s.start(P - 1), SumCheck.ASKING);
        due("7 its m(0)", s.message(0), P - 2);
        SumCheck idle = new SumCheck(1);
        due("7 BAD from the first", idle.start(-1), SumCheck.BAD);
        dueIdle("7 BAD begins no run", idle);
    }

    private static void promise8Challenge() {
        SumCheck s = twoClauses();
        due("8 IDLE", s.challenge(0), SumCheck.BAD);
        s.start(2);
        for (int bad : new int[] {-1, P, Integer.MIN_VALUE, -P}) {
            due("8 challenge(" + bad + ")", s.challenge(bad), SumCheck.BAD);
        }
        due("8 BAD gives no challenge", s.round(), 0);
        due("8 BAD leaves the running value", s.running(), 2);
        due("8 the greatest challenge", s.challenge(P - 1), SumCheck.ASKING);
        // g(t) = 1 + t - t^2 here, so g(-1) is -1.
        due("8 running", s.running(), P - 1);
        due("8 the least challenge", s.challenge(0), SumCheck.ACCEPTED);
        due("8 ACCEPTED", s.challenge(0), SumCheck.BAD);
        due("8 still ACCEPTED", s.status(), SumCheck.ACCEPTED);
        due("8 no third challenge", s.round(), 2);
        s.start(3);
        due("8 REJECTED", s.challenge(0), SumCheck.BAD);
        due("8 no challenge was given", s.round(), 0);
        SumCheck turning = new SumCheck(2);
        turning.manner(SumCheck.FLAT);
        turning.start(5);
        turning.manner(SumCheck.HONEST);
        due("8 rejected by the next round's check", turning.challenge(7), SumCheck.REJECTED);
        due("8 that challenge was given", turning.round(), 1);
        due("8 the run has ended", turning.challenge(7), SumCheck.BAD);
    }

    private static void promise8CheatersCaughtAtTheEnd() {
        SumCheck s = new SumCheck(1);
        s.manner(SumCheck.STEEP);
        due("8 steep, false", s.start(5), SumCheck.ASKING);
        due("8 steep is caught at 0", s.challenge(0), SumCheck.REJECTED);
        due("8 steep, all challenges given", s.extension(0), 1);
        s.start(5);
        due("8 steep escapes at 1", s.challenge(1), SumCheck.ACCEPTED);
        s.manner(SumCheck.FLAT);
        s.start(5);
        due("8 flat is caught at 1", s.challenge(1), SumCheck.REJECTED);
        s.start(2);
        due("8 flat with the true claim", s.challenge(1), SumCheck.ACCEPTED);
    }

    private static void promise9Status() {
        SumCheck s = twoClauses();
        due("9 no run", s.status(), SumCheck.IDLE);
        s.start(2);
        due("9 waits", s.status(), SumCheck.ASKING);
        s.challenge(3);
        due("9 waits again", s.status(), SumCheck.ASKING);
        s.challenge(3);
        due("9 done", s.status(), SumCheck.ACCEPTED);
        s.start(1);
        due("9 refused", s.status(), SumCheck.REJECTED);
        s.clear(0);
        due("9 forgotten", s.status(), SumCheck.IDLE);
    }

    private static void promise10Round() {
        SumCheck s = new SumCheck(5);
        due("10 IDLE", s.round(), 0);
        s.start(32);
        for (int k = 0; k < 5; k++) {
            due("10 before challenge " + k, s.round(), k);
            s.challenge(k);
        }
        due("10 at the end", s.round(), 5);
        s.challenge(1);
        due("10 BAD does not count", s.round(), 5);
        s.clause(0, 1, 0);
        due("10 forgotten by clause", s.round(), 0);
        s.start(16);
        s.challenge(9);
        s.clear(1);
        due("10 forgotten by clear", s.round(), 0);
    }

    private static void promise11Message() {
        SumCheck s = twoClauses();
        due("11 IDLE", s.message(0), SumCheck.BAD);
        s.start(2);
        int[] first = {1, 1, P - 1};
        for (int t = 0; t <= 2; t++) {
            due("11 round 0, message(" + t + ")", s.message(t), first[t]);
        }
        for (int bad : new int[] {-1, 3, 4, Integer.MIN_VALUE, Integer.MAX_VALUE}) {
            due("11 message(" + bad + ")", s.message(bad), SumCheck.BAD);
        }
        s.challenge(3);
        // A~(3, t) = 3 - 2 t and B~(3, t) = -2 + 3 t.
        int[] second = {P - 6, 1, P - 4};
        for (int t = 0; t <= 2; t++) {
            due("11 round 1, message(" + t + ")", s.message(t), second[t]);
        }
        s.challenge(5);
        for (int t = 0; t <= 2; t++) {
            due("11 after the end, message(" + t + ")", s.message(t), second[t]);
        }
        s.start(1);
        for (int t = 0; t <= 2; t++) {
            due("11 rejected, message(" + t + ")", s.message(t), first[t]);
        }
        due("11 rejected, message(3)", s.message(3), SumCheck.BAD);
    }

    private static void promise12Running() {
        SumCheck s = twoClauses();
        due("12 IDLE", s.running(), SumCheck.BAD);
        s.start(2);
        due("12 the claim", s.running(), 2);
        s.challenge(3);
        due("12 m(3) of round 0", s.running(), P - 5);
        s.challenge(5);
        // (3 - 10) * (-2 + 15)
        due("12 m(5) of round 1", s.running(), P - 91);
        s.start(0);
        due("12 a claim that was rejected", s.running(), 0);
        s.clause(0, 3, 3);
        due("12 forgotten", s.running(), SumCheck.BAD);
    }

    private static void promise13ChallengeAt() {
        SumCheck s = new SumCheck(5);
        due("13 IDLE", s.challengeAt(0), SumCheck.BAD);
        int[] given = {0, P - 1, 17, 1, 1234567890};
        s.start(32);
        for (int k = 0; k < 5; k++) {
            due("13 not yet given " + k, s.challengeAt(k), SumCheck.BAD);
            s.challenge(given[k]);
            for (int i = 0; i <= k; i++) {
                due("13 challengeAt(" + i + ")", s.challengeAt(i), given[i]);
            }
        }
        for (int bad : new int[] {-1, 5, 6, Integer.MIN_VALUE, Integer.MAX_VALUE}) {
            due("13 challengeAt(" + bad + ")", s.challengeAt(bad), SumCheck.BAD);
        }
        s.start(31);
        due("13 not of this run", s.challengeAt(0), SumCheck.BAD);
        SumCheck turning = new SumCheck(2);
        turning.manner(SumCheck.FLAT);
        turning.start(5);
        turning.manner(SumCheck.HONEST);
        turning.challenge(7);
        due("13 the challenge before a rejection", turning.challengeAt(0), 7);
        due("13 none after it", turning.challengeAt(1), SumCheck.BAD);
    }

    private static void promise14Extension() {
        SumCheck s = twoClauses();
        due("14 IDLE", s.extension(0), SumCheck.BAD);
        s.start(2);
        due("14 none given", s.extension(0), SumCheck.BAD);
        s.challenge(3);
        due("14 one given, A", s.extension(0), SumCheck.BAD);
        due("14 one given, B", s.extension(1), SumCheck.BAD);
        s.challenge(5);
        // A~ = v0 + v1 - v0 v1 and B~ = 1 - v0 + v0 v1.
        due("14 A~(3, 5)", s.extension(0), P - 7);
        due("14 B~(3, 5)", s.extension(1), 13);
        for (int bad : new int[] {-1, 2, Integer.MIN_VALUE, Integer.MAX_VALUE}) {
            due("14 extension(" + bad + ")", s.extension(bad), SumCheck.BAD);
        }
        due("14 asking changes nothing", s.extension(0), P - 7);
        s.manner(SumCheck.FLAT);
        s.start(50);
        s.challenge(3);
        due("14 caught", s.challenge(5), SumCheck.REJECTED);
        due("14 A~ after a rejected end", s.extension(0), P - 7);
        due("14 B~ after a rejected end", s.extension(1), 13);
        s.clear(0);
        due("14 forgotten", s.extension(1), SumCheck.BAD);
    }

    private static void promise15Order() {
        SumCheck s = new SumCheck(2);
        for (int i = 0; i < 6; i++) {
            s.clause(0, 3, 3);
            s.clause(1, 3, 3);
        }
        for (int formula = 0; formula < 2; formula++) {
            due("15 a wrong pos, full", s.clause(formula, 4, 0), SumCheck.BAD);
            due("15 a wrong neg, full", s.clause(formula, 0, 4), SumCheck.BAD);
            due("15 a negative pos, full", s.clause(formula, Integer.MIN_VALUE, 0), SumCheck.BAD);
            due("15 a negative neg, full", s.clause(formula, 0, -1), SumCheck.BAD);
            due("15 nothing wrong, full", s.clause(formula, 0, 0), SumCheck.FULL);
        }
        due("15 no formula, full", s.clause(2, 0, 0), SumCheck.BAD);
        due("15 no formula below, full", s.clause(-1, 0, 0), SumCheck.BAD);
    }
}
