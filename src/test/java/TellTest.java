/** Promises 13, 14, 18, 19 and 21: what is told without the proof. */
public final class TellTest {
    private static final Checks CHECKS = new Checks();

    private static void due(String call, long got, long want) {
        CHECKS.due(call, got, want);
    }

    public static void main(String[] args) {
        clauseTells();
        clauseTellsWhatIsNeeded();
        sideTells();
        outermostTells();
        testTells();
        countTells();
        CHECKS.end();
    }

    private static void clauseTells() {
        MiddleClaims x = Checks.with("a,-b,ab,a-c,abc,bcd-e,abcdef/-a-b-c-d-e-f,-f");
        int[] sides = {0, 0, 0, 0, 0, 0, 0, 1, 1};
        int[] signs = {1, 0, 3, 1, 7, 14, 63, 0, 0};
        int[] opposites = {0, 2, 0, 4, 0, 16, 0, 63, 32};
        int[] worlds = {32, 32, 48, 48, 56, 60, 63, 63, 32};
        for (int clause = 0; clause < sides.length; clause++) {
            due("clause(" + clause + ", 0)", x.clause(clause, 0), sides[clause]);
            due("clause(" + clause + ", 1)", x.clause(clause, 1), signs[clause]);
            due("clause(" + clause + ", 2)", x.clause(clause, 2), opposites[clause]);
            due("clause(" + clause + ", 3)", x.clause(clause, 3), worlds[clause]);
            due("clause(" + clause + ", 5)", x.clause(clause, 5), -2);
            due("clause(" + clause + ", -1)", x.clause(clause, -1), -2);
        }
        due("clause(9, 0)", x.clause(9, 0), -1);
        due("clause(-1, 0)", x.clause(-1, 0), -1);
        due("the clause first", x.clause(9, 9), -1);
        due("clause(MIN, MAX)", x.clause(Integer.MIN_VALUE, Integer.MAX_VALUE), -1);
        due("clause(0, MIN)", x.clause(0, Integer.MIN_VALUE), -2);
    }

    private static void clauseTellsWhatIsNeeded() {
        MiddleClaims x = Checks.with("c,a,a/-e,-a,d");
        int[] needed = {0, 1, 0, 0, 1, 0};
        for (int clause = 0; clause < needed.length; clause++) {
            due("clause(" + clause + ", 4)", x.clause(clause, 4), needed[clause]);
        }
        x.remove(4);
        due("without a clash", x.clause(1, 4), 0);
        x = Checks.of(ProofRows.EMPTY_CLAUSE_WOULD_BE_401ST);
        for (int clause = 0; clause < x.count(0); clause++) {
            due("the proof is not known: clause(" + clause + ", 4)", x.clause(clause, 4), 0);
        }
    }

    private static void sideTells() {
        // The side 0: a, and b or not c: the lowest world is 1. The side 1: d and e: 8 + 16.
        MiddleClaims x = Checks.with("a,b-c/d,e");
        int[][] wants = {{2, 7, 24, 1, -2}, {2, 24, 16, 24, -2}};
        for (int side = 0; side < 2; side++) {
            for (int what = 0; what < 5; what++) {
                due("side(" + side + ", " + what + ")", x.side(side, what), wants[side][what]);
            }
            due("side(" + side + ", -1)", x.side(side, -1), -2);
        }
        due("side(2, 0)", x.side(2, 0), -1);
        due("side(-1, 0)", x.side(-1, 0), -1);
        due("the side first", x.side(2, 4), -1);
        x = Checks.with("a,-a,f");
        due("no world", x.side(0, 2), 0);
        due("no lowest one", x.side(0, 3), -5);
        due("of no clauses all worlds", x.side(1, 2), 64);
        due("of no clauses the lowest one", x.side(1, 3), 0);
        x = Checks.with("a,b,c,d,e,f");
        due("the last world alone", x.side(0, 3), 63);
        due("one world", x.side(0, 2), 1);
        x = Checks.with("f");
        due("the lowest of the upper half", x.side(0, 3), 32);
    }

    private static void outermostTells() {
        // The side 0 says a and c, the side 1 not a, not b and d: a alone is shared.
        MiddleClaims x = Checks.with("a,c/-a,-b,d");
        due("strongest, low", x.outermost(false, 0), 0xAAAAAAAA);
        due("strongest, high", x.outermost(false, 1), 0xAAAAAAAA);
        due("weakest, low", x.outermost(true, 0), 0xAAAAAAAA);
        due("outermost(false, 2)", x.outermost(false, 2), 0);
        due("outermost(true, -1)", x.outermost(true, -1), 0);
        x = Checks.with("a,b/-a,-b");
        due("strongest of a and b", x.outermost(false, 0), 0x88888888);
        due("weakest of a and b", x.outermost(true, 0), 0xEEEEEEEE);
        // Of a and b only b is shared, then of e and f only e.
        x = Checks.with("a,b/-b,c");
        due("strongest, a is not shared", x.outermost(false, 0), 0xCCCCCCCC);
        due("weakest, c is not shared", x.outermost(true, 1), 0xCCCCCCCC);
        x = Checks.with("e,f/-e");
        due("strongest, f is not shared", x.outermost(false, 0), 0xFFFF0000);
        due("strongest, f is not shared", x.outermost(false, 1), 0xFFFF0000);
        x = Checks.with("f,e/-f,-e");
        due("strongest of e and f, low", x.outermost(false, 0), 0);
        due("strongest of e and f, high", x.outermost(false, 1), 0xFFFF0000);
        due("weakest of e and f, low", x.outermost(true, 0), 0xFFFF0000);
        due("weakest of e and f, high", x.outermost(true, 1), 0xFFFFFFFF);
        x = Checks.with("a,-a/b");
        due("a side that clashes with itself", x.outermost(false, 0), 0);
        due("and the weakest one", x.outermost(true, 0), 0);
        x.exchange();
        due("the other side clashes with itself", x.outermost(false, 1), -1);
        due("and the weakest one", x.outermost(true, 1), -1);
        x = Checks.with("a/b");
        due("no clash", x.outermost(false, 0), 0);
        due("no clash, the weakest one", x.outermost(true, 0), 0);
        x = Checks.of(ProofRows.EMPTY_CLAUSE_WOULD_BE_401ST);
        due("they clash without a known proof", x.count(2), 1);
        due("as its model tells", x.test(x.outermost(true, 0), x.outermost(true, 1)), 0);
        due("as its model tells", x.test(x.outermost(false, 0), x.outermost(false, 1)), 0);
    }

    private static void testTells() {
        MiddleClaims x = Checks.with("a,c/-a,-b,d");
        due("a", x.test(0xAAAAAAAA, 0xAAAAAAAA), 0);
        due("false", x.test(0, 0), 1);
        due("true", x.test(-1, -1), 2);
        due("not a: 1 is ahead of 2", x.test(0x55555555, 0x55555555), 1);
        due("a and c: 3", x.test(0xA0A0A0A0, 0xA0A0A0A0), 3);
        due("a and f: 1", x.test(0, 0xAAAAAAAA), 1);
        due("a and not f: 1", x.test(0xAAAAAAAA, 0), 1);
        due("a or b: 3", x.test(0xEEEEEEEE, 0xAAAAAAAA), 3);
        due("one world more that the side 1 has", x.test(0xAAAAAAAA | 1 << 8, 0xAAAAAAAA), 2);
        due("one world less, which the side 0 lacks", x.test(0xAAAAAAA8, 0xAAAAAAAA), 3);
        due("one world less, which the side 0 has", x.test(0xAAAAAA8A, 0xAAAAAAAA), 1);
        x = Checks.with("a/b");
        due("no clash: 1 or 2", x.test(0xAAAAAAAA, 0xAAAAAAAA), 2);
        due("no clash: 1 or 2", x.test(0x22222222, 0x22222222), 1);
        // a, f, and not both: signs that lie far apart.
        x = Checks.with("a,f/-a-f");
        due("a and f", x.test(0, 0xAAAAAAAA), 0);
        due("f", x.test(0, -1), 2);
        due("a and f, but one", x.test(0, 0xAAAAAAA8), 1);
        x = Checks.with("a,b/-b,c");
        due("b", x.test(0xCCCCCCCC, 0xCCCCCCCC), 0);
        due("b, or a and not c: a is not shared", x.test(0xCECECECE, 0xCECECECE), 3);
        x = Checks.with("a,b,-b/-a");
        due("b is not shared", x.test(0x88888888, 0x88888888), 3);
        due("false", x.test(0, 0), 0);
        due("a", x.test(0xAAAAAAAA, 0xAAAAAAAA), 0);
        due("c", x.test(0xA0A0A0A0, 0xA0A0A0A0), 3);
        due("a, but in the world 63", x.test(0xAAAAAAAA, 0x2AAAAAAA), 3);
    }

    private static void countTells() {
        MiddleClaims x = Checks.with("c,ab,a-b/-e,-ac");
        Checks.type(x, "xyz");
        int[] wants = {5, 5, 0, 9, 0, 0, -5, -5, 8, 1, 3};
        for (int what = 0; what < wants.length; what++) {
            due("count(" + what + ")", x.count(what), wants[what]);
        }
        due("count(11)", x.count(11), -2);
        due("count(-1)", x.count(-1), -2);
        due("count(MIN)", x.count(Integer.MIN_VALUE), -2);
        due("count(MAX)", x.count(Integer.MAX_VALUE), -2);
        // ab and a-b give a; with -a that is the end.
        x = Checks.with("ab,a-b/-a,d");
        int[] clash = {4, 1, 1, 8, 5, 1, 32, 32, 0, 1, 0};
        for (int what = 0; what < clash.length; what++) {
            due("clash: count(" + what + ")", x.count(what), clash[what]);
        }
    }
}
