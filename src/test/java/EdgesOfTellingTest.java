/** The boundary cases of the promises 13, 14, 18, 19 and 21. */
public final class EdgesOfTellingTest extends EdgeCases {
    public static void main(String[] args) {
        EdgesOfTellingTest test = new EdgesOfTellingTest();
        test.clauseRefuses();
        test.clauseTells();
        test.sideRefuses();
        test.sideTells();
        test.outermostRefuses();
        test.outermostTells();
        test.testsOfClashingSides();
        test.testsOfOtherSides();
        test.countRefuses();
        test.countTells();
        test.countTellsOfTheProof();
        test.end();
    }

    private void clauseRefuses() {
        for (int clause : beyond(5)) {
            refused("Promise 13, clause: of 5 clauses " + clause + " is UNKNOWN",
                Setups::clashing, x -> x.clause(clause, 0), UNKNOWN);
        }
        refused("Promise 13, clause: of 24 clauses 24 is UNKNOWN",
            Setups::full, x -> x.clause(24, 0), UNKNOWN);
        refused("Promise 13, clause: without clauses 0 is UNKNOWN",
            Setups::emptied, x -> x.clause(0, 0), UNKNOWN);
        refused("Promise 13, clause: a resolvent is no clause",
            Setups::allNeeded, x -> x.clause(2, 0), UNKNOWN);
        for (int what : beyond(5)) {
            refused("Promise 13, clause: what " + what + " is BAD_VALUE",
                Setups::clashing, x -> x.clause(4, what), BAD_VALUE);
            refused("Promise 13, clause: what " + what + " is BAD_VALUE if the proof is not known",
                Setups::unknown, x -> x.clause(0, what), BAD_VALUE);
        }
    }

    private void clauseTells() {
        named("Promise 13, clause: the first and the last of 24", () -> {
            MiddleClaims x = Setups.full();
            dueClause(x, 0, 0, 1, 0);
            dueClause(x, 23, 1, 23, 32);
        });
        named("Promise 13, clause: 1 to 6 literals are true in 32 to 63 worlds", () -> {
            MiddleClaims x = Checks.with("f,-ab,a-bc/-a-b-c-d,abcde,a-bc-de-f");
            int[] worlds = {32, 48, 56, 60, 62, 63};
            for (int clause = 0; clause < worlds.length; clause++) {
                due("clause(" + clause + ", 3)", x.clause(clause, 3), worlds[clause]);
            }
        });
        named("Promise 13, clause: needed, 1 or 0", () -> {
            MiddleClaims x = Setups.clashing();
            int[] needed = {1, 1, 1, 0, 0};
            for (int clause = 0; clause < needed.length; clause++) {
                due("clause(" + clause + ", 4)", x.clause(clause, 4), needed[clause]);
            }
        });
        named("Promise 13, clause: the first and the last of 24 are needed", () -> {
            MiddleClaims x = Checks.of(ProofRows.ALL_24_ARE_NEEDED);
            due("clause(0, 4)", x.clause(0, 4), 1);
            due("clause(23, 4)", x.clause(23, 4), 1);
        });
        named("Promise 13, clause: none is needed without the empty clause", () -> {
            MiddleClaims x = Checks.with("a,-ab/b");
            for (int clause = 0; clause < 3; clause++) {
                due("clause(" + clause + ", 4)", x.clause(clause, 4), 0);
            }
        });
        named("Promise 13, clause: 0 if the proof is not known, though they clash", () -> {
            MiddleClaims x = Setups.unknown();
            due("they clash", x.count(2), 1);
            for (int clause = 0; clause < 17; clause++) {
                due("clause(" + clause + ", 4)", x.clause(clause, 4), 0);
            }
        });
        named("Promise 13, clause: all else is told also if the proof is not known", () -> {
            MiddleClaims x = Setups.unknown();
            dueClause(x, 0, 0, 16, 2);
            dueClause(x, 16, 0, 3, 32);
            due("clause(16, 3)", x.clause(16, 3), 56);
        });
    }

    private void sideRefuses() {
        for (int side : beyond(2)) {
            refused("Promise 14, side: the side " + side + " is UNKNOWN",
                Setups::clashing, x -> x.side(side, 0), UNKNOWN);
        }
        for (int what : beyond(4)) {
            refused("Promise 14, side: what " + what + " is BAD_VALUE of the side 0",
                Setups::clashing, x -> x.side(0, what), BAD_VALUE);
            refused("Promise 14, side: what " + what + " is BAD_VALUE of the side 1",
                Setups::fresh, x -> x.side(1, what), BAD_VALUE);
        }
        refused("Promise 14, side: NONE for the lowest world of the side 0, if it has none",
            () -> Checks.with("ab,a-b,-a/c"), x -> x.side(0, 3), NONE);
        refused("Promise 14, side: NONE for the lowest world of the side 1, if it has none",
            () -> Checks.with("c/ab,a-b,-a"), x -> x.side(1, 3), NONE);
    }

    private void sideTells() {
        named("Promise 14, side: 0 and 24 clauses", () -> {
            MiddleClaims x = new MiddleClaims();
            for (int clause = 0; clause < 24; clause++) {
                x.add(1, 1, 0);
            }
            due("side(0, 0)", x.side(0, 0), 0);
            due("side(1, 0)", x.side(1, 0), 24);
        });
        named("Promise 14, side: knows none, and all six", () -> {
            MiddleClaims x = Checks.with("abc-d-e-f");
            due("side(0, 1)", x.side(0, 1), 63);
            due("side(1, 1)", x.side(1, 1), 0);
        });
        named("Promise 14, side: all worlds without clauses, the lowest is 0", () -> {
            MiddleClaims x = Checks.with("a,-a");
            due("side(1, 2)", x.side(1, 2), 64);
            due("side(1, 3)", x.side(1, 3), 0);
        });
        named("Promise 14, side: no world", () -> {
            MiddleClaims x = Checks.with("a,-a");
            due("side(0, 2)", x.side(0, 2), 0);
        });
        named("Promise 14, side: the world 63 alone", () -> {
            MiddleClaims x = Checks.with("a,b,c,d,e,f");
            due("side(0, 2)", x.side(0, 2), 1);
            due("side(0, 3)", x.side(0, 3), 63);
        });
        named("Promise 14, side: the world 0 alone", () -> {
            MiddleClaims x = Checks.with("f/-a,-b,-c,-d,-e,-f");
            due("side(1, 2)", x.side(1, 2), 1);
            due("side(1, 3)", x.side(1, 3), 0);
        });
        named("Promise 14, side: the lowest of the upper half, and the highest of the lower one", () -> {
            MiddleClaims x = Checks.with("f/a,b,c,d,e");
            due("side(0, 2)", x.side(0, 2), 32);
            due("side(0, 3)", x.side(0, 3), 32);
            due("side(1, 2)", x.side(1, 2), 2);
            due("side(1, 3)", x.side(1, 3), 31);
        });
        named("Promise 14, side: all of its clauses, none of the other side", () -> {
            MiddleClaims x = Checks.with("a,-b/b,c");
            due("side(0, 2)", x.side(0, 2), 16);
            due("side(0, 3)", x.side(0, 3), 1);
            due("side(1, 2)", x.side(1, 2), 16);
            due("side(1, 3)", x.side(1, 3), 6);
        });
    }

    private void outermostRefuses() {
        for (int half : beyond(2)) {
            for (boolean weakest : new boolean[] {false, true}) {
                refused("Promise 18, outermost: 0 for the half " + half + " of a true claim, weakest " + weakest,
                    Setups::trueClaims, x -> x.outermost(weakest, half), 0);
            }
        }
        for (int half = 0; half < 2; half++) {
            int one = half;
            // But for the clash the strongest one would be true, the weakest one a.
            refused("Promise 18, outermost: 0 if the sides do not clash, half " + half + ", strongest",
                Setups::noClaims, x -> x.outermost(false, one), 0);
            refused("Promise 18, outermost: 0 if the sides do not clash, half " + half + ", weakest",
                Setups::noClaims, x -> x.outermost(true, one), 0);
        }
    }

    private void outermostTells() {
        named("Promise 18, outermost: all worlds, if the side 1 has none", () -> {
            MiddleClaims x = Checks.with("a/b,-b");
            dueOutermost(x, true, TRUE);
        });
        named("Promise 18, outermost: of the side 0 what the shared signs tell, here nothing", () -> {
            MiddleClaims x = Checks.with("a/b,-b");
            dueOutermost(x, false, TRUE);
        });
        named("Promise 18, outermost: no world, if the side 0 has none", () -> {
            MiddleClaims x = Checks.with("a,-a/b");
            dueOutermost(x, false, FALSE);
            dueOutermost(x, true, FALSE);
        });
        named("Promise 18, outermost: both sides without a world", () -> {
            MiddleClaims x = Checks.with("a,-a/a,-a");
            dueOutermost(x, false, FALSE);
            dueOutermost(x, true, TRUE);
        });
        named("Promise 18, outermost: strongest and weakest are apart", () -> {
            MiddleClaims x = Checks.with("a,f/-a,-f");
            dueOutermost(x, false, A & F);
            dueOutermost(x, true, A | F);
        });
        named("Promise 18, outermost: all six shared, one world", () -> {
            MiddleClaims x = Checks.with("a,b,c,d,e,f/-a-b-c-d-e-f");
            dueOutermost(x, false, 1L << 63);
            dueOutermost(x, true, 1L << 63);
        });
        named("Promise 18, outermost: all six shared, all worlds but one", () -> {
            MiddleClaims x = Checks.with("abcdef/-a,-b,-c,-d,-e,-f");
            dueOutermost(x, false, ~1L);
            dueOutermost(x, true, ~1L);
        });
        for (int sign = 0; sign < 6; sign++) {
            int one = sign;
            named("Promise 18, outermost: the sign " + sign + " that is not shared tells nothing", () -> {
                char letter = (char) ('a' + one);
                char other = one == 5 ? 'a' : 'f';
                long claim = one == 5 ? A : F;
                MiddleClaims x = Checks.with(letter + "," + other + "/-" + other);
                dueOutermost(x, false, claim);
                dueOutermost(x, true, claim);
                x.exchange();
                dueOutermost(x, false, ~claim);
                dueOutermost(x, true, ~claim);
            });
        }
        named("Promise 18, outermost: also if the proof is not known", () -> {
            MiddleClaims x = Setups.unknown();
            due("count(3)", x.count(3), 401);
            due("the strongest is one", x.test(x.outermost(false, 0), x.outermost(false, 1)), 0);
            due("the weakest is one", x.test(x.outermost(true, 0), x.outermost(true, 1)), 0);
        });
        named("Promise 18, outermost: a sign known to the side 0 alone is left out, not forgotten", () -> {
            // a and -b, or not a and -c, are ruled out: whatever a is, b or c is left.
            MiddleClaims x = Checks.with("ab,-ac/-b,-c");
            dueOutermost(x, false, B | C);
            dueOutermost(x, true, B | C);
        });
        named("Promise 18, outermost: all middle claims are between them, and they are two of them", () -> {
            MiddleClaims x = Checks.with("a,b/-a,-b");
            dueOutermost(x, false, A & B);
            dueOutermost(x, true, A | B);
            long[] parts = {~A & ~B, A & ~B, ~A & B, A & B};
            for (int choice = 0; choice < 16; choice++) {
                long claim = 0;
                for (int part = 0; part < 4; part++) {
                    claim |= (choice >> part & 1) == 1 ? parts[part] : 0;
                }
                boolean between = (A & B & ~claim) == 0 && (claim & ~(A | B)) == 0;
                due("a middle claim, the choice " + choice, test(x, claim) == 0 ? 1 : 0, between ? 1 : 0);
            }
        });
    }

    private void testsOfClashingSides() {
        // The side 0 says a and c, the side 1 not a and d: a alone is shared.
        String text = "a,c/-a,d";
        named("Promise 19, test: 0 for the one middle claim", () -> {
            due("a", test(Checks.with(text), A), 0);
        });
        named("Promise 19, test: 1 for the claim false", () -> {
            due("false", test(Checks.with(text), FALSE), 1);
        });
        named("Promise 19, test: 2 for the claim true", () -> {
            due("true", test(Checks.with(text), TRUE), 2);
        });
        named("Promise 19, test: 1 is told ahead of 2 and 3", () -> {
            due("not a", test(Checks.with(text), ~A), 1);
            due("d, and not a", test(Checks.with(text), ~A & D), 1);
        });
        named("Promise 19, test: 2 is told ahead of 3", () -> {
            due("a or d", test(Checks.with(text), A | D), 2);
            due("a or all of d but a world", test(Checks.with(text), A | D & ~(1L << 8)), 2);
        });
        named("Promise 19, test: 3 for a claim that tells of a sign known to the side 0 alone", () -> {
            due("a and c", test(Checks.with(text), A & C), 3);
        });
        named("Promise 19, test: 3 for a claim that tells of a sign known to the side 1 alone", () -> {
            due("a or not d", test(Checks.with(text), A | ~D), 3);
        });
        named("Promise 19, test: 3 for a claim that tells of a sign that no side knows", () -> {
            due("a, and c or f", test(Checks.with(text), A & (C | F)), 3);
            due("a, or not d and f", test(Checks.with(text), A | ~D & F), 3);
        });
        for (int world : new int[] {0, 31, 32, 63}) {
            named("Promise 19, test: one world more or less, " + world, () -> {
                MiddleClaims x = Checks.with("abcdef/-a,-b,-c,-d,-e,-f");
                long claim = ~1L ^ 1L << world;
                due("but that world", test(x, claim), world == 0 ? 2 : 1);
                x.exchange();
                due("but that world, exchanged", test(x, ~claim), world == 0 ? 1 : 2);
                x = Checks.with("a,b/-b");
                boolean of0 = (A & B) >>> world << 63 != 0;
                boolean of1 = ~B >>> world << 63 != 0;
                due("but that world, b alone is shared", test(x, B ^ 1L << world), of0 ? 1 : of1 ? 2 : 3);
            });
        }
        named("Promise 19, test: low and high are not the same half", () -> {
            MiddleClaims x = Checks.with("f/-f");
            due("f", x.test(0, -1), 0);
            due("not f", x.test(-1, 0), 1);
        });
        named("Promise 19, test: the least and the greatest int", () -> {
            MiddleClaims x = Checks.with("a,b,c,d,e,f/-a-b-c-d-e-f");
            due("the world 63", x.test(0, MIN), 0);
            due("all worlds but 31 and 63", x.test(MAX, MAX), 1);
            due("the worlds 31 and 63", x.test(MIN, MIN), 2);
            due("the world 31 alone", x.test(MIN, 0), 1);
            x.exchange();
            due("all worlds but 63", x.test(-1, MAX), 0);
            due("all worlds but 31 and 63", x.test(MAX, MAX), 1);
        });
    }

    private void testsOfOtherSides() {
        named("Promise 19, test: never 0 if the sides do not clash", () -> {
            MiddleClaims x = Checks.with("a/b");
            due("a", test(x, A), 2);
            due("not b", test(x, ~B), 1);
            due("false", test(x, FALSE), 1);
            due("true", test(x, TRUE), 2);
        });
        named("Promise 19, test: without clauses both sides are true in all worlds", () -> {
            MiddleClaims x = new MiddleClaims();
            due("true", test(x, TRUE), 2);
            due("false", test(x, FALSE), 1);
            due("true but in the world 63", test(x, TRUE >>> 1), 1);
            due("true but in the world 0", test(x, ~1L), 1);
        });
        named("Promise 19, test: without shared signs only false or true", () -> {
            MiddleClaims x = Checks.with("a,-a/b");
            due("false", test(x, FALSE), 0);
            due("a and not b", test(x, A & ~B), 3);
            due("b", test(x, B), 2);
            x.exchange();
            due("true", test(x, TRUE), 0);
            due("a or b", test(x, A | B), 3);
        });
        named("Promise 19, test: any claim over shared signs, if no side has a world", () -> {
            MiddleClaims x = Checks.with("a,-a/a,-a");
            for (long claim : new long[] {FALSE, TRUE, A, ~A}) {
                due("a claim over a", test(x, claim), 0);
            }
            due("b", test(x, B), 3);
        });
        named("Promise 19, test: 3 for any world that is told apart from those that look alike", () -> {
            MiddleClaims x = Checks.with("f,-f/f,-f");
            for (int world = 0; world < 64; world++) {
                due("the world " + world + " alone", test(x, 1L << world), 3);
                due("all but the world " + world, test(x, ~(1L << world)), 3);
                due("f but for the world " + world, test(x, F ^ 1L << world), 3);
            }
        });
        named("Promise 19, test: also if the proof is not known", () -> {
            MiddleClaims x = Setups.unknown();
            due("true", test(x, TRUE), x.side(1, 2) == 0 ? 0 : 2);
            due("false", test(x, FALSE), x.side(0, 2) == 0 ? 0 : 1);
        });
    }

    private void countRefuses() {
        for (int what : beyond(11)) {
            refused("Promise 21, count: what " + what + " is BAD_VALUE",
                Setups::clashing, x -> x.count(what), BAD_VALUE);
            refused("Promise 21, count: what " + what + " is BAD_VALUE if the proof is not known",
                Setups::unknown, x -> x.count(what), BAD_VALUE);
        }
        for (int what = 6; what <= 7; what++) {
            int one = what;
            refused("Promise 21, count: NONE for " + what + " without the empty clause",
                Setups::open, x -> x.count(one), NONE);
            refused("Promise 21, count: NONE for " + what + " in a new object",
                Setups::fresh, x -> x.count(one), NONE);
            refused("Promise 21, count: NONE for " + what + " if the proof is not known",
                Setups::unknown, x -> x.count(one), NONE);
        }
    }

    private void countTells() {
        named("Promise 21, count: 0 and 24 clauses, of both sides", () -> {
            due("new: count(0)", new MiddleClaims().count(0), 0);
            due("full: count(0)", Setups.full().count(0), 24);
        });
        named("Promise 21, count: none shared, some, all", () -> {
            due("none", Checks.with("abc/def").count(1), 0);
            due("a and f", Checks.with("abf/-ac-f").count(1), 33);
            due("all", Checks.with("-a-b-c-d-e-f/abcdef").count(1), 63);
        });
        named("Promise 21, count: whether they clash is told also if the proof is not known", () -> {
            due("a clash", Setups.unknown().count(2), 1);
            MiddleClaims x = Checks.of(ProofRows.WOULD_END_WITH_401_STEPS);
            due("no proof is known", x.count(3), 401);
            due("no clash", x.count(2), 0);
        });
        named("Promise 21, count: 64, 1 and 0 worlds in which all are true", () -> {
            due("64", new MiddleClaims().count(8), 64);
            due("63", Checks.with("abcdef").count(8), 63);
            due("1", Checks.with("a,b,c/d,e,f").count(8), 1);
            due("0", Checks.with("a,b,c/d,e,f,-f").count(8), 0);
        });
        named("Promise 21, count: 0 to 4 states", () -> {
            MiddleClaims x = new MiddleClaims();
            for (int act = 0; act < 6; act++) {
                due("count(9)", x.count(9), Math.min(4, act));
                x.add(0, 1, 0);
            }
        });
        named("Promise 21, count: 0, 1 and 60 characters", () -> {
            MiddleClaims x = new MiddleClaims();
            due("0", x.count(10), 0);
            x.type('g');
            due("1", x.count(10), 1);
            due("60", Setups.full().count(10), 60);
        });
    }

    private void countTellsOfTheProof() {
        named("Promise 21, count: 0, 1 and 400 steps, 401 if it is not known", () -> {
            due("0", new MiddleClaims().count(3), 0);
            due("1", Checks.with("a").count(3), 1);
            due("24", Checks.with("a,b,c,d,e,f,a,b,c,d,e,f,a,b,c,d,e,f,a,b,c,d,e,f").count(3), 24);
            due("400", Checks.of(ProofRows.ENDS_WITH_400_STEPS).count(3), 400);
            due("400, the last one empty", Checks.of(ProofRows.EMPTY_CLAUSE_IS_400TH).count(3), 400);
            due("401", Checks.of(ProofRows.WOULD_END_WITH_401_STEPS).count(3), 401);
            due("401, the last one would be empty", Setups.unknown().count(3), 401);
        });
        named("Promise 21, count: needed steps, the clauses among them", () -> {
            due("of a and -a", Checks.with("a/-a").count(4), 3);
            due("of more", Checks.with("a,-ac,-ab/-b").count(4), 5);
        });
        named("Promise 21, count: no needed steps without the empty clause", () -> {
            due("new", new MiddleClaims().count(4), 0);
            due("no clash", Checks.with("a,-ab").count(4), 0);
            due("400 steps", Checks.of(ProofRows.ENDS_WITH_400_STEPS).count(4), 0);
        });
        named("Promise 21, count: no needed steps if the proof is not known", () -> {
            due("a clash", Setups.unknown().count(4), 0);
            due("no clash", Checks.of(ProofRows.WOULD_END_WITH_401_STEPS).count(4), 0);
        });
        named("Promise 21, count: whether the empty clause is a step", () -> {
            due("new", new MiddleClaims().count(5), 0);
            due("a clash", Checks.with("a/-a").count(5), 1);
            due("no clash", Checks.with("a/b").count(5), 0);
            due("the 400th", Checks.of(ProofRows.EMPTY_CLAUSE_IS_400TH).count(5), 1);
            due("it would be the 401st", Setups.unknown().count(5), 0);
        });
        named("Promise 21, count: a middle claim that is true in no world, and in all", () -> {
            MiddleClaims x = Checks.with("a,-a");
            due("count(6)", x.count(6), 0);
            due("count(7)", x.count(7), 0);
            x.exchange();
            due("count(6)", x.count(6), 64);
            due("count(7)", x.count(7), 64);
        });
        named("Promise 21, count: the middle claims of the manners in this order", () -> {
            MiddleClaims x = Checks.of(new int[][] {{0, 2}, {0, 1}, {0, 1}, {3, 0}});
            due("count(6), of a or not b", x.count(6), 48);
            due("count(7), of not b", x.count(7), 32);
        });
    }
}
