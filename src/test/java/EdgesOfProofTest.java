/** The boundary cases of the promises 15, 16, 17 and 20, of THE PROOF and of MIDDLE CLAIMS. */
public final class EdgesOfProofTest extends EdgeCases {
    public static void main(String[] args) {
        EdgesOfProofTest test = new EdgesOfProofTest();
        test.stepRefuses();
        test.stepTells();
        test.justOneSign();
        test.order();
        test.ends();
        test.needed();
        test.atMost400();
        test.partialRefuses();
        test.partialTells();
        test.claimsOfClauses();
        test.claimsOfResolvents();
        test.middleRefuses();
        test.middleTells();
        test.compare();
        test.end();
    }

    private void stepRefuses() {
        for (int step : new int[] {-1, 3, 4, 399, 400, 401, MIN, MAX}) {
            refused("Promise 15, step: of 3 steps " + step + " is UNKNOWN",
                Setups::allNeeded, x -> x.step(step, 0), UNKNOWN);
        }
        refused("Promise 15, step: without steps 0 is UNKNOWN", Setups::fresh, x -> x.step(0, 0), UNKNOWN);
        refused("Promise 15, step: of 400 steps 400 is UNKNOWN",
            () -> Checks.of(ProofRows.ENDS_WITH_400_STEPS), x -> x.step(400, 0), UNKNOWN);
        for (int what : beyond(6)) {
            refused("Promise 15, step: what " + what + " of a clause is BAD_VALUE",
                Setups::allNeeded, x -> x.step(0, what), BAD_VALUE);
            refused("Promise 15, step: what " + what + " of a resolvent is BAD_VALUE",
                Setups::allNeeded, x -> x.step(2, what), BAD_VALUE);
        }
        for (int step : new int[] {0, 16, 399, 400, -1, MIN, MAX}) {
            refused("Promise 15, step: NOT_POSSIBLE for " + step + " if the proof is not known",
                Setups::unknown, x -> x.step(step, 0), NOT_POSSIBLE);
        }
        for (int what = 2; what <= 4; what++) {
            int one = what;
            refused("Promise 15, step: NONE for " + what + " of a clause",
                Setups::clashing, x -> x.step(4, one), NONE);
        }
    }

    private void stepTells() {
        named("Promise 15, step: the first steps are the clauses of both sides, in their order", () -> {
            MiddleClaims x = Checks.with("-f,a/cd,a-b-c-d-e");
            dueStep(x, 0, 0, 32, NONE, NONE, NONE, 0);
            dueStep(x, 1, 1, 0, NONE, NONE, NONE, 0);
            dueStep(x, 2, 12, 0, NONE, NONE, NONE, 0);
            dueStep(x, 3, 1, 30, NONE, NONE, NONE, 0);
            due("count(3)", x.count(3), 4);
        });
        named("Promise 15, step: the first parent is t, the second s, whichever has the pivot", () -> {
            dueStep(Checks.with("ab,-ac"), 2, 6, 0, 0, 1, 0, 0);
            dueStep(Checks.with("-ac,ab"), 2, 6, 0, 0, 1, 0, 0);
        });
        for (int sign = 0; sign < 6; sign++) {
            char letter = (char) ('a' + sign);
            int pivot = sign;
            named("Promise 15, step: the pivot " + pivot, () -> {
                dueStep(Checks.with(letter + "/-" + letter), 2, 0, 0, 0, 1, pivot, 1);
                dueStep(Checks.with("-" + letter + "/" + letter), 2, 0, 0, 0, 1, pivot, 1);
            });
        }
        named("Promise 15, step: the last of 400", () -> {
            dueStep(Checks.of(ProofRows.EMPTY_CLAUSE_IS_400TH), 399, 0, 0);
            due("needed", Checks.of(ProofRows.EMPTY_CLAUSE_IS_400TH).step(399, 5), 1);
            MiddleClaims x = Checks.of(ProofRows.ENDS_WITH_400_STEPS);
            int with = x.step(399, 0) | x.step(399, 1);
            due("it has literals", with != 0 ? 1 : 0, 1);
            due("a first parent ahead of the second", x.step(399, 2) < x.step(399, 3) ? 1 : 0, 1);
            due("and a second ahead of it", x.step(399, 3) < 399 ? 1 : 0, 1);
            due("not needed", x.step(399, 5), 0);
        });
    }

    private void justOneSign() {
        named("THE PROOF: no sign of the one has its opposite in the other", () ->
            due("steps", Checks.with("abc/abd,c-e,-e-f").count(3), 4));
        named("THE PROOF: two signs against one another", () -> {
            due("one each way", Checks.with("a-b/-ab").count(3), 2);
            due("both the same way", Checks.with("ab/-a-b").count(3), 2);
            due("with others", Checks.with("abc/-a-bd").count(3), 2);
        });
        named("THE PROOF: six signs against one another", () ->
            due("steps", Checks.with("abcdef/-a-b-c-d-e-f").count(3), 2));
        named("THE PROOF: just one sign, the resolvent has all other literals of both", () -> {
            MiddleClaims x = Checks.with("ab-c-d/-a-cef");
            dueStep(x, 2, 50, 12, 0, 1, 0, 0);
            due("steps", x.count(3), 3);
        });
        named("THE PROOF: just one sign, a literal of both comes once", () -> {
            dueStep(Checks.with("abf/-abf"), 2, 34, 0, 0, 1, 0, 0);
            dueStep(Checks.with("c-d/-b-d,-c-d"), 3, 0, 8, 0, 2, 2, 0);
        });
        named("THE PROOF: clauses of one side and of both are resolved alike", () -> {
            due("of the side 0", Checks.with("a,-a").count(5), 1);
            due("of both", Checks.with("a/-a").count(5), 1);
            MiddleClaims x = Checks.with("a,-a");
            x.exchange();
            due("of the side 1", x.count(5), 1);
        });
        named("THE PROOF: a clause is not resolved with itself", () ->
            due("steps", Checks.with("a-b").count(3), 1));
    }

    private void order() {
        named("THE PROOF: each s from 0 on with each t ahead of it from 0 on, worked out by hand", () -> {
            MiddleClaims x = Checks.with("a,-ab/-bc,-c");
            due("steps", x.count(3), 10);
            dueStep(x, 4, 2, 0, 0, 1, 0, 1);
            dueStep(x, 5, 4, 1, 1, 2, 1, 0);
            dueStep(x, 6, 0, 2, 2, 3, 2, 1);
            dueStep(x, 7, 4, 0, 2, 4, 1, 0);
            dueStep(x, 8, 0, 1, 3, 5, 2, 0);
            dueStep(x, 9, 0, 0, 4, 6, 1, 1);
        });
        named("THE PROOF: t from 0 on, not from s down", () -> {
            MiddleClaims x = Checks.with("ac,ad/-a");
            dueStep(x, 3, 4, 0, 0, 2, 0, 0);
            dueStep(x, 4, 8, 0, 1, 2, 0, 0);
        });
        named("THE PROOF: s from 0 on, all t of an s ahead of the next s", () -> {
            MiddleClaims x = Checks.with("ac/-a-d,-ab,d");
            dueStep(x, 4, 4, 8, 0, 1, 0, 0);
            dueStep(x, 5, 6, 0, 0, 2, 0, 0);
            dueStep(x, 6, 0, 1, 1, 3, 3, 0);
            dueStep(x, 7, 4, 0, 3, 4, 3, 0);
            due("steps", x.count(3), 8);
        });
        named("THE PROOF: a resolvent comes behind all steps, not behind its parents", () -> {
            MiddleClaims x = Checks.with("a,-ab,e,f");
            dueStep(x, 2, 16, 0, NONE, NONE, NONE, 0);
            dueStep(x, 3, 32, 0, NONE, NONE, NONE, 0);
            dueStep(x, 4, 2, 0, 0, 1, 0, 0);
        });
        named("THE PROOF: resolvents are resolved with clauses and with resolvents", () -> {
            MiddleClaims x = Checks.with("ab,-b,-ac/-c");
            // 4: a; 5: bc; 6: -a; 7: c from a and -ac; then a and -a.
            dueStep(x, 4, 1, 0, 0, 1, 1, 1);
            dueStep(x, 5, 6, 0, 0, 2, 0, 0);
            dueStep(x, 6, 0, 1, 2, 3, 2, 1);
            dueStep(x, 7, 4, 0, 2, 4, 0, 0);
            dueStep(x, 8, 2, 0, 3, 5, 2, 0);
            dueStep(x, 9, 0, 0, 4, 6, 0, 1);
            due("steps", x.count(3), 10);
        });
        named("THE PROOF: a resolvent that is a clause is no new step", () -> {
            due("a clause ahead", Checks.with("b,a,-ab").count(3), 3);
            due("a clause behind", Checks.with("a,-ab,b").count(3), 3);
            due("of the other side", Checks.with("a,-ab/b").count(3), 3);
        });
        named("THE PROOF: a resolvent that is a resolvent already is no new step, the first has its parents", () -> {
            MiddleClaims x = Checks.with("a,-ab,c,b-c");
            // b comes of 0 and 1, then again of 2 and 3.
            dueStep(x, 4, 2, 0, 0, 1, 0, 0);
            due("steps", x.count(3), 5);
        });
        named("THE PROOF: a resolvent that only has more literals than a step, or fewer, is a new step", () -> {
            MiddleClaims x = Checks.with("b,ab,-ac");
            dueStep(x, 3, 6, 0, 1, 2, 0, 0);
            due("steps", x.count(3), 4);
            x = Checks.with("bcd,ab,-ac");
            dueStep(x, 3, 6, 0, 1, 2, 0, 0);
            due("steps", x.count(3), 4);
            x = Checks.with("bc,ab,-ac");
            due("none if it is the same", x.count(3), 3);
        });
        named("THE PROOF: the same clauses are steps each, but their resolvents come once", () -> {
            MiddleClaims x = Checks.with("ab,ab/-a,-a");
            due("steps", x.count(3), 5);
            dueStep(x, 1, 3, 0, NONE, NONE, NONE, 0);
            dueStep(x, 3, 0, 1, NONE, NONE, NONE, 0);
            dueStep(x, 4, 2, 0, 0, 2, 0, 0);
        });
    }

    private void ends() {
        named("THE PROOF: it ends with the empty clause, though other steps are left", () -> {
            MiddleClaims x = Checks.with("a/-a,-ab,-ac");
            due("steps", x.count(3), 5);
            dueStep(x, 4, 0, 0, 0, 1, 0, 1);
            due("step(5, 0)", x.step(5, 0), UNKNOWN);
        });
        named("THE PROOF: it ends with no step left, though without the empty clause", () -> {
            MiddleClaims x = Checks.with("a,-ab/c");
            due("steps", x.count(3), 4);
            due("count(5)", x.count(5), 0);
            due("they do not clash", x.count(2), 0);
        });
        named("THE PROOF: the empty clause comes of the last s and the last t", () -> {
            dueStep(Checks.with("a/-a"), 2, 0, 0, 0, 1, 0, 1);
            dueStep(Checks.with("b,c/a,-a"), 4, 0, 0, 2, 3, 0, 1);
        });
        named("THE PROOF: it has the empty clause whenever they clash and it is known", () -> {
            for (String text : new String[] {"ab,a-b/-ab,-a-b", "abc,-a/-b,-c", "f,-ef/-f,e"}) {
                due(text + ": they clash", Checks.with(text).count(2), 1);
                due(text + ": count(5)", Checks.with(text).count(5), 1);
            }
        });
        named("THE PROOF: over five signs it is always known, at most 243 clauses can be told apart", () -> {
            MiddleClaims x = Checks.of(ProofRows.ALL_24_ARE_NEEDED);
            due("known", x.count(3) <= 243 ? 1 : 0, 1);
            due("count(5)", x.count(5), 1);
        });
    }

    private void needed() {
        named("THE PROOF: needed is the empty clause, its parents and theirs, nothing else", () -> {
            MiddleClaims x = Checks.with("a,-ab/-bc,-c");
            int[] needed = {1, 1, 1, 1, 1, 0, 1, 0, 0, 1};
            for (int step = 0; step < needed.length; step++) {
                due("step(" + step + ", 5)", x.step(step, 5), needed[step]);
            }
            due("count(4)", x.count(4), 7);
        });
        named("THE PROOF: a child of a needed step is not needed for that", () -> {
            MiddleClaims x = Checks.with("a,-ac,-ab/-b");
            due("c", x.step(4, 5), 0);
            due("its second parent", x.step(1, 5), 0);
            due("its first parent", x.step(0, 5), 1);
        });
        named("THE PROOF: a step that is needed twice counts once", () -> {
            // a is a parent of b and of c; b and -b-c give -c, which ends it with c.
            MiddleClaims x = Checks.with("a,-ab,-ac/-b-c");
            int[] needed = {1, 1, 1, 1, 1, 1, 0, 0, 1, 0, 0, 1};
            for (int step = 0; step < needed.length; step++) {
                due("step(" + step + ", 5)", x.step(step, 5), needed[step]);
            }
            due("count(3)", x.count(3), 12);
            due("count(4)", x.count(4), 8);
        });
        named("THE PROOF: without the empty clause none is needed", () -> {
            MiddleClaims x = Checks.with("a,-ab/c");
            for (int step = 0; step < 4; step++) {
                due("step(" + step + ", 5)", x.step(step, 5), 0);
            }
            due("count(4)", x.count(4), 0);
        });
    }

    private void atMost400() {
        named("THE PROOF: 400 steps, and none left, are known", () -> {
            MiddleClaims x = Checks.of(ProofRows.ENDS_WITH_400_STEPS);
            due("count(3)", x.count(3), 400);
            due("count(5)", x.count(5), 0);
            due("step(0, 0)", x.step(0, 0), 16);
            due("step(400, 0)", x.step(400, 0), UNKNOWN);
            due("shrink()", x.shrink(), NOT_POSSIBLE);
        });
        named("THE PROOF: 400 steps, the last one the empty clause, are known", () -> {
            MiddleClaims x = Checks.of(ProofRows.EMPTY_CLAUSE_IS_400TH);
            due("count(3)", x.count(3), 400);
            due("count(5)", x.count(5), 1);
            due("count(4) is not 0", x.count(4) > 3 ? 1 : 0, 1);
            due("step(399, 0)", x.step(399, 0), 0);
            due("step(399, 1)", x.step(399, 1), 0);
            for (int manner = 0; manner < 2; manner++) {
                due("the claim of " + manner, x.test(x.middle(manner, 0), x.middle(manner, 1)), 0);
                for (int world = 0; world < 64; world++) {
                    int half = x.middle(manner, world / 32);
                    due("partial(399, .., " + world + ")", x.partial(399, manner, world), half >>> world % 32 & 1);
                }
            }
            due("compare()", x.compare() >= 0 ? 1 : 0, 1);
        });
        named("THE PROOF: if there would be 401, it is not known", () -> {
            MiddleClaims x = Checks.of(ProofRows.WOULD_END_WITH_401_STEPS);
            due("count(3)", x.count(3), 401);
            due("count(4)", x.count(4), 0);
            due("count(5)", x.count(5), 0);
            due("step(0, 0)", x.step(0, 0), NOT_POSSIBLE);
            due("clause(0, 4)", x.clause(0, 4), 0);
            due("clause(0, 1)", x.clause(0, 1), 24);
        });
        named("THE PROOF: if the 401st would be the empty clause, it is not known", () -> {
            MiddleClaims x = Checks.of(ProofRows.EMPTY_CLAUSE_WOULD_BE_401ST);
            due("count(2)", x.count(2), 1);
            due("count(3)", x.count(3), 401);
            due("count(4)", x.count(4), 0);
            due("count(5)", x.count(5), 0);
            due("count(6)", x.count(6), NONE);
            due("count(7)", x.count(7), NONE);
            due("step(399, 0)", x.step(399, 0), NOT_POSSIBLE);
            due("compare()", x.compare(), NOT_POSSIBLE);
        });
        named("THE PROOF: one more clause makes it unknown, undo makes it known", () -> {
            MiddleClaims x = Checks.of(ProofRows.EMPTY_CLAUSE_IS_400TH);
            int needed = x.count(4);
            due("one more clause at the end", x.add(0, 32, 8), 21);
            due("count(3)", x.count(3), 401);
            due("undo()", x.undo(), 3);
            due("count(3)", x.count(3), 400);
            due("count(4)", x.count(4), needed);
            due("count(5)", x.count(5), 1);
        });
    }

    private void partialRefuses() {
        for (int step : new int[] {-1, 3, 399, 400, MIN, MAX}) {
            refused("Promise 16, partial: of 3 steps " + step + " is UNKNOWN",
                Setups::allNeeded, x -> x.partial(step, 0, 0), UNKNOWN);
        }
        for (int manner : beyond(2)) {
            refused("Promise 16, partial: the manner " + manner + " is BAD_VALUE",
                Setups::allNeeded, x -> x.partial(1, manner, 0), BAD_VALUE);
        }
        for (int world : new int[] {-1, 64, 65, 128, -64, MIN, MAX}) {
            refused("Promise 16, partial: the world " + world + " is BAD_VALUE",
                Setups::allNeeded, x -> x.partial(1, 0, world), BAD_VALUE);
            refused("Promise 16, partial: the world " + world + " is BAD_VALUE by the manner 1",
                Setups::allNeeded, x -> x.partial(2, 1, world), BAD_VALUE);
        }
        for (int step : new int[] {0, 2, 400, -1, MIN, MAX}) {
            refused("Promise 16, partial: NOT_POSSIBLE for " + step + " without the empty clause",
                Setups::open, x -> x.partial(step, 0, 0), NOT_POSSIBLE);
            refused("Promise 16, partial: NOT_POSSIBLE for " + step + " if the proof is not known",
                Setups::unknown, x -> x.partial(step, 1, 63), NOT_POSSIBLE);
        }
        refused("Promise 16, partial: NOT_POSSIBLE for a proof of 400 steps without the empty clause",
            () -> Checks.of(ProofRows.ENDS_WITH_400_STEPS), x -> x.partial(0, 0, 0), NOT_POSSIBLE);
        refused("Promise 16, partial: NOT_POSSIBLE in a new object",
            Setups::fresh, x -> x.partial(0, 0, 0), NOT_POSSIBLE);
    }

    private void partialTells() {
        named("Promise 16, partial: the worlds 0, 31, 32 and 63", () -> {
            MiddleClaims x = Checks.with("f/-f");
            int[] worlds = {0, 31, 32, 63};
            for (int world : worlds) {
                due("partial(2, 0, " + world + ")", x.partial(2, 0, world), world / 32);
                due("partial(2, 1, " + world + ")", x.partial(2, 1, world), world / 32);
            }
        });
        named("Promise 16, partial: the first and the last step", () -> {
            MiddleClaims x = Checks.with("a/-a");
            duePartial(x, 0, 0, FALSE);
            duePartial(x, 0, 1, A);
            duePartial(x, 2, 0, A);
        });
        named("Promise 16, partial: also of steps that are not needed", () -> {
            MiddleClaims x = Checks.with("a,-ab/-bc,-c");
            duePartial(x, 5, 0, B);
            duePartial(x, 8, 1, B);
        });
    }

    private void claimsOfClauses() {
        named("MIDDLE CLAIMS: of a clause of the side 0, by the manner 0 false", () -> {
            MiddleClaims x = Checks.with("a-b,b,c/-a");
            for (int clause = 0; clause < 3; clause++) {
                duePartial(x, clause, 0, FALSE);
            }
        });
        named("MIDDLE CLAIMS: of a clause of the side 0, by the manner 1 its literals of shared signs", () -> {
            MiddleClaims x = Checks.with("ab-c-d,-ae,f/-a,-b,c,a");
            due("shared", x.count(1), 7);
            duePartial(x, 0, 1, A | B | ~C);
            duePartial(x, 1, 1, ~A);
        });
        named("MIDDLE CLAIMS: of a clause of the side 0 without shared signs, by the manner 1 false", () ->
            duePartial(Checks.with("de,a/-a"), 0, 1, FALSE));
        named("MIDDLE CLAIMS: of a clause of the side 0, all six shared", () -> {
            MiddleClaims x = Checks.with("a-bc-de-f,a/-a,bcdef");
            duePartial(x, 0, 1, A | ~B | C | ~D | E | ~F);
        });
        named("MIDDLE CLAIMS: of a clause of the side 1 true, by both manners", () -> {
            MiddleClaims x = Checks.with("a/-a,b-c,def");
            for (int clause = 1; clause < 4; clause++) {
                duePartial(x, clause, 0, TRUE);
                duePartial(x, clause, 1, TRUE);
            }
        });
        named("MIDDLE CLAIMS: the same clause on both sides has two claims", () -> {
            MiddleClaims x = Checks.with("a,b/a,-a");
            duePartial(x, 0, 1, A);
            duePartial(x, 2, 1, TRUE);
            duePartial(x, 0, 0, FALSE);
            duePartial(x, 2, 0, TRUE);
        });
        named("MIDDLE CLAIMS: a sign is shared also by a clause that is not needed", () -> {
            MiddleClaims x = Checks.with("a,-a");
            duePartial(x, 0, 1, FALSE);
            x.add(1, 3, 0);
            duePartial(x, 0, 1, A);
            duePartial(x, 1, 1, ~A);
            dueMiddle(x, 1, FALSE);
        });
    }

    private void claimsOfResolvents() {
        named("MIDDLE CLAIMS: by hand, the manner 0", () -> {
            MiddleClaims x = Checks.with("a,-ab/-bc,-c");
            duePartial(x, 4, 0, FALSE);
            duePartial(x, 5, 0, B);
            duePartial(x, 6, 0, TRUE);
            duePartial(x, 7, 0, B);
            duePartial(x, 9, 0, B);
        });
        named("MIDDLE CLAIMS: by hand, the manner 1", () -> {
            MiddleClaims x = Checks.with("a,-ab/-bc,-c");
            duePartial(x, 4, 1, B);
            duePartial(x, 5, 1, B);
            duePartial(x, 6, 1, TRUE);
            duePartial(x, 7, 1, B);
            duePartial(x, 9, 1, B);
        });
        named("MIDDLE CLAIMS: a pivot known to the side 0 alone, any of both", () -> {
            // e goes: the claims are b and -c by the manner 1.
            MiddleClaims x = Checks.with("be,-c-e/-b,c");
            dueStep(x, 4, 2, 4, 0, 1, 4, 0);
            duePartial(x, 4, 0, FALSE);
            duePartial(x, 4, 1, B | ~C);
        });
        named("MIDDLE CLAIMS: a pivot known to the side 0 alone, any of both by the manner 0", () -> {
            // f comes with the claim a, -f with the claim b, and f ends it: a and b alone are shared.
            MiddleClaims x = Checks.with("af,b-f/-a,-b");
            dueStep(x, 5, 32, 0, 0, 2, 0, 1);
            dueStep(x, 6, 0, 32, 1, 3, 1, 1);
            dueStep(x, 9, 0, 0, 5, 6, 5, 1);
            duePartial(x, 5, 0, A);
            duePartial(x, 6, 0, B);
            dueMiddle(x, 0, A | B);
            dueMiddle(x, 1, A | B);
        });
        named("MIDDLE CLAIMS: a pivot known to the side 1 alone, both", () -> {
            // The mirror of it: f comes with the claim not a, -f with not b.
            MiddleClaims x = Checks.with("-a,-b/af,b-f");
            dueStep(x, 4, 32, 0, 0, 2, 0, 1);
            dueStep(x, 5, 0, 32, 1, 3, 1, 1);
            dueStep(x, 9, 0, 0, 4, 5, 5, 1);
            for (int manner = 0; manner < 2; manner++) {
                duePartial(x, 4, manner, ~A);
                duePartial(x, 5, manner, ~B);
                dueMiddle(x, manner, ~A & ~B);
            }
        });
        named("MIDDLE CLAIMS: a shared pivot by the manner 0, the first parent has it", () -> {
            MiddleClaims x = Checks.with("a/-a");
            dueMiddle(x, 0, A);
            x.exchange();
            dueMiddle(x, 0, ~A);
        });
        named("MIDDLE CLAIMS: a shared pivot by the manner 0, the second parent has it", () -> {
            MiddleClaims x = Checks.with("-a/a");
            dueMiddle(x, 0, ~A);
            x.exchange();
            dueMiddle(x, 0, A);
        });
        named("MIDDLE CLAIMS: a shared pivot by the manner 1, both", () -> {
            MiddleClaims x = Checks.with("ab,-b/-ab,-a-b");
            // b of the side 0: (a or b) and not b.
            due("step", x.step(4, 0), 1);
            duePartial(x, 4, 1, (A | B) & ~B);
            duePartial(x, 4, 0, FALSE);
        });
        for (int sign = 0; sign < 6; sign++) {
            char letter = (char) ('a' + sign);
            long claim = SIGN[sign];
            named("MIDDLE CLAIMS: the shared sign " + sign + " as the pivot", () -> {
                MiddleClaims x = Checks.with(letter + "/-" + letter);
                dueMiddle(x, 0, claim);
                dueMiddle(x, 1, claim);
                x.exchange();
                dueMiddle(x, 0, ~claim);
                dueMiddle(x, 1, ~claim);
            });
            named("MIDDLE CLAIMS: the sign " + sign + " of one side alone as the pivot", () -> {
                MiddleClaims x = Checks.with(letter + ",-" + letter);
                dueMiddle(x, 0, FALSE);
                dueMiddle(x, 1, FALSE);
                x.exchange();
                dueMiddle(x, 0, TRUE);
                dueMiddle(x, 1, TRUE);
            });
        }
        named("MIDDLE CLAIMS: move changes what is shared, and so the claims of the same steps", () -> {
            MiddleClaims x = Checks.with("a,-a,b");
            dueMiddle(x, 1, FALSE);
            due("move(1)", x.move(1), 1);
            dueMiddle(x, 0, A);
            dueMiddle(x, 1, A);
            due("move(0)", x.move(0), 1);
            dueMiddle(x, 0, TRUE);
        });
    }

    private void middleRefuses() {
        for (int manner : beyond(2)) {
            refused("Promise 17, middle: 0 for the manner " + manner,
                Setups::trueClaims, x -> x.middle(manner, 0), 0);
        }
        for (int half : beyond(2)) {
            refused("Promise 17, middle: 0 for the half " + half + " by the manner 0",
                Setups::trueClaims, x -> x.middle(0, half), 0);
            refused("Promise 17, middle: 0 for the half " + half + " by the manner 1",
                Setups::trueClaims, x -> x.middle(1, half), 0);
        }
        refused("Promise 17, middle: 0 if half and manner are out of range",
            Setups::trueClaims, x -> x.middle(2, 2), 0);
        for (int which = 0; which < 4; which++) {
            int manner = which / 2;
            int half = which % 2;
            String call = "middle(" + manner + ", " + half + ")";
            refused("Promise 17, middle: 0 without the empty clause, " + call,
                Setups::noClaims, x -> x.middle(manner, half), 0);
            refused("Promise 17, middle: 0 in a new object, " + call,
                Setups::fresh, x -> x.middle(manner, half), 0);
            refused("Promise 17, middle: 0 if the proof is not known, " + call,
                Setups::unknown, x -> x.middle(manner, half), 0);
            refused("Promise 17, middle: 0 behind a proof that had it, " + call, () -> {
                MiddleClaims x = Checks.with("f/a,-a");
                x.middle(0, 0);
                x.remove(2);
                return x;
            }, x -> x.middle(manner, half), 0);
        }
    }

    private void middleTells() {
        named("Promise 17, middle: all bits may be used", () -> {
            MiddleClaims x = Checks.with("f/a,-a");
            for (int which = 0; which < 4; which++) {
                due("middle", x.middle(which / 2, which % 2), -1);
            }
        });
        named("Promise 17, middle: the bit 31 and the bit 0 of each half", () -> {
            MiddleClaims x = Checks.with("a,b,c,d,e/-a-b-c-d-e");
            for (int which = 0; which < 4; which++) {
                due("middle", x.middle(which / 2, which % 2), MIN);
            }
            x = Checks.with("-a,-b,-c,-d,-e/abcde");
            for (int which = 0; which < 4; which++) {
                due("middle", x.middle(which / 2, which % 2), 1);
            }
        });
        named("Promise 17, middle: the half 0 for the worlds 0 to 31, 1 for 32 to 63", () -> {
            MiddleClaims x = Checks.with("f/-f");
            for (int manner = 0; manner < 2; manner++) {
                due("middle(" + manner + ", 0)", x.middle(manner, 0), 0);
                due("middle(" + manner + ", 1)", x.middle(manner, 1), -1);
            }
        });
        named("Promise 17, middle: the manners are told apart", () -> {
            MiddleClaims x = mannersApart();
            dueMiddle(x, 0, A | ~B);
            dueMiddle(x, 1, ~B);
        });
        named("Promise 17, middle: it is the partial claim of the empty clause", () -> {
            MiddleClaims x = mannersApart();
            duePartial(x, 6, 0, A | ~B);
            duePartial(x, 6, 1, ~B);
        });
    }

    /** The side 0 says not b and not a, the side 1 not a and a or b; the proof goes by -b, ab, -a (1). */
    private static MiddleClaims mannersApart() {
        return Checks.of(new int[][] {{0, 2}, {0, 1}, {0, 1}, {3, 0}});
    }

    private void compare() {
        refused("Promise 20, compare: NOT_POSSIBLE without the empty clause",
            Setups::open, MiddleClaims::compare, NOT_POSSIBLE);
        refused("Promise 20, compare: NOT_POSSIBLE in a new object",
            Setups::fresh, MiddleClaims::compare, NOT_POSSIBLE);
        refused("Promise 20, compare: NOT_POSSIBLE if the proof is not known, though they clash",
            Setups::unknown, MiddleClaims::compare, NOT_POSSIBLE);
        refused("Promise 20, compare: NOT_POSSIBLE with 400 steps without the empty clause",
            () -> Checks.of(ProofRows.ENDS_WITH_400_STEPS), MiddleClaims::compare, NOT_POSSIBLE);
        named("Promise 20, compare: 0 for the same claims, also if both are false or true", () -> {
            due("a", Checks.with("a/-a").compare(), 0);
            due("false", Checks.with("a,-a").compare(), 0);
            due("true", Checks.with("b/a,-a").compare(), 0);
        });
        named("Promise 20, compare: 2 if that of the manner 1 is stronger", () ->
            due("compare()", mannersApart().compare(), 2));
        named("Promise 20, compare: it follows the clauses", () -> {
            MiddleClaims x = mannersApart();
            due("compare()", x.compare(), 2);
            due("remove(1)", x.remove(1), 3);
            due("compare()", x.compare(), 0);
            due("undo()", x.undo(), 3);
            due("compare()", x.compare(), 2);
        });
    }
}
