/** Promises 15, 16, 17, 20 and what else is told of the proof. */
public final class ProofTest {
    private static final Checks CHECKS = new Checks();

    private static void due(String call, long got, long want) {
        CHECKS.due(call, got, want);
    }

    public static void main(String[] args) {
        stepsInOrder();
        stepsThatAreNot();
        theSameClauseTwice();
        stepRefuses();
        theProofFollowsTheClauses();
        claimsOfPrivatePivots();
        claimsOfSharedPivots();
        claimsOfClauses();
        mannersDiffer();
        partialRefuses();
        middleRefuses();
        proofOf400Steps();
        proofThatWouldGoOn();
        emptyClauseAtTheEdge();
        middleClaimsAreMiddleClaims();
        CHECKS.end();
    }

    private static void dueStep(MiddleClaims x, int step, int... wants) {
        for (int what = 0; what < wants.length; what++) {
            due("step(" + step + ", " + what + ")", x.step(step, what), wants[what]);
        }
    }

    private static void stepsInOrder() {
        MiddleClaims x = Checks.with("-b,-a/ab,c");
        dueStep(x, 0, 0, 2, -5, -5, -5, 1);
        dueStep(x, 1, 0, 1, -5, -5, -5, 1);
        dueStep(x, 2, 3, 0, -5, -5, -5, 1);
        dueStep(x, 3, 4, 0, -5, -5, -5, 0);
        dueStep(x, 4, 1, 0, 0, 2, 1, 1);
        dueStep(x, 5, 2, 0, 1, 2, 0, 0);
        dueStep(x, 6, 0, 0, 1, 4, 0, 1);
        due("steps", x.count(3), 7);
        due("needed steps", x.count(4), 5);
        due("the empty clause", x.count(5), 1);
        due("step(7, 0)", x.step(7, 0), -1);
    }

    private static void stepsThatAreNot() {
        MiddleClaims x = Checks.with("ab/-a-b");
        due("two signs against one another", x.count(3), 2);
        x = Checks.with("abc-d,-abd,ab");
        due("neither are the first two", x.count(3), 6);
        dueStep(x, 3, 10, 0, 1, 2, 0, 0);
        dueStep(x, 4, 7, 0, 0, 3, 3, 0);
        dueStep(x, 5, 14, 0, 1, 4, 0, 0);
        x = Checks.with("ab/cd");
        due("no sign against another", x.count(3), 2);
        x = Checks.with("ac,-ad");
        due("a resolvent has all other literals", x.count(3), 3);
        dueStep(x, 2, 12, 0, 0, 1, 0, 0);
        x = Checks.with("a-c,-a-f");
        dueStep(x, 2, 0, 36, 0, 1, 0, 0);
        x = Checks.with("ab,-ab,b");
        due("a resolvent that is there", x.count(3), 3);
        due("no empty clause", x.count(5), 0);
        due("no needed steps", x.count(4), 0);
    }

    private static void theSameClauseTwice() {
        MiddleClaims x = Checks.with("a,a/-a");
        due("steps", x.count(3), 4);
        dueStep(x, 1, 1, 0, -5, -5, -5, 0);
        dueStep(x, 3, 0, 0, 0, 2, 0, 1);
        x = Checks.with("a/a,-a");
        dueStep(x, 3, 0, 0, 0, 2, 0, 1);
    }

    private static void stepRefuses() {
        MiddleClaims x = Checks.with("a/-a");
        due("step(-1, 0)", x.step(-1, 0), -1);
        due("step(3, 0)", x.step(3, 0), -1);
        due("step(400, 0)", x.step(400, 0), -1);
        due("step(MAX, 0)", x.step(Integer.MAX_VALUE, 0), -1);
        due("step(MIN, 0)", x.step(Integer.MIN_VALUE, 0), -1);
        due("step(2, -1)", x.step(2, -1), -2);
        due("step(2, 6)", x.step(2, 6), -2);
        due("the step first", x.step(3, 6), -1);
    }

    private static void theProofFollowsTheClauses() {
        MiddleClaims x = Checks.with("a/-a");
        due("steps", x.count(3), 3);
        x.add(0, 2, 0);
        due("after add", x.count(3), 4);
        x.remove(0);
        due("after remove", x.count(5), 0);
        x.undo();
        due("after undo", x.count(5), 1);
        x.keep();
        x.move(1);
        due("after move", x.middle(0, 0), 0);
        x.exchange();
        due("after exchange", x.middle(0, 0), -1);
        x.restore();
        due("after restore", x.middle(0, 0), 0xAAAAAAAA);
        x.shrink();
        due("after shrink", x.count(3), 3);
        Checks.type(x, "c,-c");
        x.addAll();
        due("after addAll", x.count(3), 5);
    }

    private static void claimsOfPrivatePivots() {
        MiddleClaims x = Checks.with("a,-a");
        due("the side 0 alone, manner 0", x.middle(0, 0), 0);
        due("the side 0 alone, manner 1", x.middle(1, 1), 0);
        due("is false", x.count(6), 0);
        due("is false", x.count(7), 0);
        due("compare()", x.compare(), 0);
        x.exchange();
        due("the side 1 alone, manner 0", x.middle(0, 1), -1);
        due("the side 1 alone, manner 1", x.middle(1, 0), -1);
        due("is true", x.count(6), 64);
        due("is true", x.count(7), 64);
        // b goes by the side 0 alone: the claim of its child is a or b's parents' claims, which are
        // false by the manner 0, and a by the manner 1.
        x = Checks.with("ab,-b/-a");
        dueStep(x, 3, 1, 0, 0, 1, 1, 1);
        dueStep(x, 4, 2, 0, 0, 2, 0, 0);
        dueStep(x, 5, 0, 0, 2, 3, 0, 1);
        duePartial(x, 3, 0, 0L);
        duePartial(x, 3, 1, A);
        // a is shared: where it is true it is the claim of ab, elsewhere that of -a, the other way
        // round for the one that has the opposite.
        duePartial(x, 4, 0, A);
        duePartial(x, 4, 1, A);
        duePartial(x, 5, 0, A);
        duePartial(x, 5, 1, A);
        // b goes by the side 1 alone: both must be true.
        x = Checks.with("-a/ab,-b,-ac,-c");
        duePartial(x, 1, 0, -1L);
        duePartial(x, 1, 1, -1L);
        due("the claim is not a", x.middle(0, 0), (int) ~A);
        due("the claim is not a", x.middle(1, 0), (int) ~A);
    }

    private static final long A = 0xAAAAAAAAAAAAAAAAL;
    private static final long B = 0xCCCCCCCCCCCCCCCCL;
    private static final long C = 0xF0F0F0F0F0F0F0F0L;
    private static final long E = 0xFFFF0000FFFF0000L;
    private static final long F = 0xFFFFFFFF00000000L;

    private static void duePartial(MiddleClaims x, int step, int manner, long claim) {
        for (int world = 0; world < 64; world++) {
            due("partial(" + step + ", " + manner + ", " + world + ")",
                x.partial(step, manner, world), (claim >>> world) & 1L);
        }
    }

    private static void dueMiddle(MiddleClaims x, int manner, long claim) {
        due("middle(" + manner + ", 0)", x.middle(manner, 0), (int) claim);
        due("middle(" + manner + ", 1)", x.middle(manner, 1), (int) (claim >>> 32));
        due("count(" + (6 + manner) + ")", x.count(6 + manner), Long.bitCount(claim));
    }

    private static void claimsOfSharedPivots() {
        MiddleClaims x = Checks.with("e,f/-e-f");
        dueStep(x, 3, 0, 32, 0, 2, 4, 1);
        dueStep(x, 4, 0, 16, 1, 2, 5, 0);
        dueStep(x, 5, 0, 0, 1, 3, 5, 1);
        duePartial(x, 3, 0, E);
        duePartial(x, 3, 1, E);
        duePartial(x, 5, 0, E & F);
        duePartial(x, 5, 1, E & F);
        dueMiddle(x, 0, E & F);
        dueMiddle(x, 1, E & F);
        x.exchange();
        duePartial(x, 3, 0, ~E);
        duePartial(x, 3, 1, ~E | ~F);
        dueMiddle(x, 0, ~E | ~F);
        dueMiddle(x, 1, ~E | ~F);
        due("compare()", x.compare(), 0);
    }

    private static void claimsOfClauses() {
        // Shared are a and c: of the clauses of the side 0 those literals count by the manner 1.
        String text = "a-bc,b-c,-a,-c/-ac,-a-d,a";
        MiddleClaims x = Checks.with(text);
        due("shared", x.count(1), 5);
        due("the empty clause", x.count(5), 1);
        duePartial(x, 0, 0, 0L);
        duePartial(x, 0, 1, A | C);
        duePartial(x, 1, 0, 0L);
        duePartial(x, 1, 1, ~C);
        duePartial(x, 2, 0, 0L);
        duePartial(x, 2, 1, ~A);
        x = Checks.with(text);
        duePartial(x, 4, 0, -1L);
        duePartial(x, 4, 1, -1L);
        duePartial(x, 5, 0, -1L);
        duePartial(x, 5, 1, -1L);
        // No literal of it is shared.
        x = Checks.with("bc,a/-a");
        duePartial(x, 0, 1, 0L);
    }

    private static void mannersDiffer() {
        MiddleClaims x = new MiddleClaims();
        x.add(0, 0, 2);
        x.add(1, 0, 1);
        x.add(0, 0, 1);
        x.add(1, 3, 0);
        dueStep(x, 4, 1, 0, 0, 3, 1, 1);
        dueStep(x, 5, 2, 0, 1, 3, 0, 0);
        dueStep(x, 6, 0, 0, 1, 4, 0, 1);
        duePartial(x, 4, 0, ~B);
        duePartial(x, 4, 1, ~B);
        duePartial(x, 5, 0, -1L);
        dueMiddle(x, 0, A | ~B);
        dueMiddle(x, 1, ~B);
        due("compare()", x.compare(), 2);
        x.remove(1);
        due("they clash still", x.compare(), 0);
        x.remove(1);
        due("compare() without a clash", x.compare(), -4);
        x = Checks.of(ProofRows.EMPTY_CLAUSE_WOULD_BE_401ST);
        due("compare() without a known proof", x.compare(), -4);
    }

    private static void partialRefuses() {
        MiddleClaims x = Checks.with("a/-a");
        due("partial(2, 0, 1)", x.partial(2, 0, 1), 1);
        due("partial(3, 0, 0)", x.partial(3, 0, 0), -1);
        due("partial(-1, 0, 0)", x.partial(-1, 0, 0), -1);
        due("partial(MAX, 0, 0)", x.partial(Integer.MAX_VALUE, 0, 0), -1);
        due("partial(0, 2, 0)", x.partial(0, 2, 0), -2);
        due("partial(0, -1, 0)", x.partial(0, -1, 0), -2);
        due("partial(0, 0, 64)", x.partial(0, 0, 64), -2);
        due("partial(0, 0, -1)", x.partial(0, 0, -1), -2);
        due("partial(0, 0, MIN)", x.partial(0, 0, Integer.MIN_VALUE), -2);
        due("the step first", x.partial(3, 2, 64), -1);
        x.remove(1);
        due("without a clash", x.partial(0, 0, 0), -4);
        due("that first", x.partial(9, 2, 64), -4);
        x = Checks.of(ProofRows.EMPTY_CLAUSE_WOULD_BE_401ST);
        due("without a known proof", x.partial(0, 0, 0), -4);
        due("without a known proof", x.partial(-1, 0, 0), -4);
    }

    private static void middleRefuses() {
        MiddleClaims x = Checks.with("a/-a");
        due("middle(2, 0)", x.middle(2, 0), 0);
        due("middle(-1, 0)", x.middle(-1, 0), 0);
        due("middle(0, 2)", x.middle(0, 2), 0);
        due("middle(1, -1)", x.middle(1, -1), 0);
        x = Checks.with("a/b");
        due("without a clash", x.middle(0, 0), 0);
        due("without a clash", x.middle(1, 1), 0);
        x = Checks.of(ProofRows.EMPTY_CLAUSE_WOULD_BE_401ST);
        for (int half = 0; half < 2; half++) {
            due("without a known proof", x.middle(0, half), 0);
            due("without a known proof", x.middle(1, half), 0);
        }
    }

    private static void proofOf400Steps() {
        MiddleClaims x = Checks.of(ProofRows.ENDS_WITH_400_STEPS);
        due("count(3)", x.count(3), 400);
        due("count(5)", x.count(5), 0);
        due("step(399, 5)", x.step(399, 5), 0);
        due("step(399, 2) is ahead of step(399, 3)", x.step(399, 2) < x.step(399, 3) ? 1 : 0, 1);
        due("step(400, 5)", x.step(400, 5), -1);
        due("compare()", x.compare(), -4);
    }

    private static void proofThatWouldGoOn() {
        MiddleClaims x = Checks.of(ProofRows.WOULD_END_WITH_401_STEPS);
        due("count(3)", x.count(3), 401);
        due("count(4)", x.count(4), 0);
        due("count(5)", x.count(5), 0);
        due("count(6)", x.count(6), -5);
        due("count(7)", x.count(7), -5);
        due("step(0, 0)", x.step(0, 0), -4);
        due("step(-1, 9)", x.step(-1, 9), -4);
        due("clause(0, 4)", x.clause(0, 4), 0);
        x.remove(0);
        x.undo();
        due("count(3) again", x.count(3), 401);
        for (int left = x.count(0) - 1; left > 0; left--) {
            x.remove(left);
        }
        due("a proof is known again", x.count(3), 1);
        due("step(0, 0)", x.step(0, 0), 24);
    }

    private static void emptyClauseAtTheEdge() {
        MiddleClaims x = Checks.of(ProofRows.EMPTY_CLAUSE_IS_400TH);
        due("the 400th: count(3)", x.count(3), 400);
        due("the 400th: count(5)", x.count(5), 1);
        due("the 400th: step(399, 0)", x.step(399, 0), 0);
        due("the 400th: step(399, 1)", x.step(399, 1), 0);
        due("the 400th: step(399, 5)", x.step(399, 5), 1);
        due("the 400th: partial(399, 0, 0) is told", x.partial(399, 0, 0) >= 0 ? 1 : 0, 1);
        x = Checks.of(ProofRows.EMPTY_CLAUSE_WOULD_BE_401ST);
        due("the 401st: count(2)", x.count(2), 1);
        due("the 401st: count(3)", x.count(3), 401);
        due("the 401st: count(4)", x.count(4), 0);
        due("the 401st: count(5)", x.count(5), 0);
        due("the 401st: count(6)", x.count(6), -5);
        due("the 401st: count(7)", x.count(7), -5);
        due("the 401st: step(0, 0)", x.step(0, 0), -4);
    }

    private static void middleClaimsAreMiddleClaims() {
        String[] texts = {
            "a/-a", "ab,-ac/-b,-c", "ad,-ae,bd/-be,-d,-ef,-e-f", "-ab,-bc,-cd,-de,-ef,a/-f",
            "abcdef,-a,-b,-c/-d,-e,-f", "ab,a-b/-ab,-a-b"};
        for (String text : texts) {
            MiddleClaims x = Checks.with(text);
            due(text + ": count(5)", x.count(5), 1);
            due(text + ": test of manner 0", x.test(x.middle(0, 0), x.middle(0, 1)), 0);
            due(text + ": test of manner 1", x.test(x.middle(1, 0), x.middle(1, 1)), 0);
        }
    }
}
