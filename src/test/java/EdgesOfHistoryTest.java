import java.util.LinkedHashMap;
import java.util.Map;
import java.util.function.ToIntFunction;

/** The boundary cases of the promises 10 to 12, of what is said of HISTORY, and of the 512 calls. */
public final class EdgesOfHistoryTest extends EdgeCases {
    /** Each method that is an act, with a call that is not refused in any state of start(). */
    private static final Map<String, ToIntFunction<MiddleClaims>> ACTS = new LinkedHashMap<>();
    /** Each method that is none but undo. */
    private static final Map<String, ToIntFunction<MiddleClaims>> NO_ACTS = new LinkedHashMap<>();

    static {
        ACTS.put("add", x -> x.add(0, 4, 8));
        ACTS.put("addAll", MiddleClaims::addAll);
        ACTS.put("remove", x -> x.remove(1));
        ACTS.put("move", x -> x.move(4));
        ACTS.put("exchange", MiddleClaims::exchange);
        ACTS.put("shrink", MiddleClaims::shrink);
        ACTS.put("restore", MiddleClaims::restore);
        NO_ACTS.put("type", x -> x.type('a'));
        NO_ACTS.put("clearText", MiddleClaims::clearText);
        NO_ACTS.put("keep", MiddleClaims::keep);
        NO_ACTS.put("clause", x -> x.clause(0, 4));
        NO_ACTS.put("side", x -> x.side(0, 3));
        NO_ACTS.put("step", x -> x.step(0, 5));
        NO_ACTS.put("partial", x -> x.partial(0, 1, 1));
        NO_ACTS.put("middle", x -> x.middle(0, 0));
        NO_ACTS.put("outermost", x -> x.outermost(true, 0));
        NO_ACTS.put("test", x -> x.test(0, 0));
        NO_ACTS.put("compare", MiddleClaims::compare);
        NO_ACTS.put("count", x -> x.count(4));
    }

    public static void main(String[] args) {
        EdgesOfHistoryTest test = new EdgesOfHistoryTest();
        test.acts();
        test.noActs();
        test.undo();
        test.keep();
        test.restore();
        test.whatIsNoState();
        test.calls();
        test.end();
    }

    /**
     * Five clauses of which a and -a clash, the first ones moved, as many as there are states (0 to 4)
     * in the history; a snapshot of one clause, a text of two.
     */
    private static MiddleClaims start(int states) {
        MiddleClaims x = new MiddleClaims();
        x.add(1, 32, 16);
        x.keep();
        x.undo();
        Checks.type(x, "a,b-c,d/-b,-a");
        x.addAll();
        for (int clause = 0; clause < 4; clause++) {
            x.move(clause);
        }
        for (int state = 4; state > states; state--) {
            x.undo();
        }
        x.clearText();
        Checks.type(x, "e/-e-f");
        return x;
    }

    private static String told(MiddleClaims x) {
        StringBuilder all = new StringBuilder();
        for (int clause = 0; clause < x.count(0); clause++) {
            for (int what = 0; what < 3; what++) {
                all.append(x.clause(clause, what)).append(' ');
            }
        }
        return all.toString();
    }

    private void dueTold(String call, String got, String want) {
        due(call + ": the clauses " + got + "are " + want + "(1)", got.equals(want) ? 1 : 0, 1);
    }

    /** Goes back through all states that are left, from the one with this number down to the other. */
    private void dueStatesBack(MiddleClaims x, int latest, int oldest) {
        for (int state = latest; state >= oldest; state--) {
            due("undo()", x.undo(), state - oldest);
            due("count(9)", x.count(9), state - oldest);
            dueTold("undo() to the state " + state, told(x), told(start(state)));
        }
        due("undo() of none", x.undo(), NONE);
        dueTold("undo() of none", told(x), told(start(oldest)));
    }

    private void acts() {
        for (String act : ACTS.keySet()) {
            for (int states = 0; states <= 4; states++) {
                int before = states;
                named("HISTORY: the act " + act + " with " + states + " states", () -> {
                    MiddleClaims x = start(before);
                    due("count(9) ahead of it", x.count(9), before);
                    due(act + " is not refused", ACTS.get(act).applyAsInt(x) >= 0 ? 1 : 0, 1);
                    due("count(9)", x.count(9), Math.min(4, before + 1));
                    dueStatesBack(x, before, Math.max(0, before - 3));
                });
            }
            named("HISTORY: the act " + act + " leaves the text and the snapshot", () -> {
                MiddleClaims x = start(2);
                ACTS.get(act).applyAsInt(x);
                due("count(10)", x.count(10), 6);
                due("addAll()", x.addAll(), 2);
                due("restore()", x.restore(), 1);
                dueClause(x, 0, 1, 32, 16);
            });
        }
    }

    private void noActs() {
        for (String call : NO_ACTS.keySet()) {
            for (int states = 0; states <= 4; states += 2) {
                int before = states;
                named("HISTORY: " + call + " is no act with " + states + " states", () -> {
                    MiddleClaims x = start(before);
                    NO_ACTS.get(call).applyAsInt(x);
                    due("count(9)", x.count(9), before);
                    dueTold(call, told(x), told(start(before)));
                    if (before > 0) {
                        dueStatesBack(x, before - 1, 0);
                    }
                });
            }
        }
    }

    private void undo() {
        refused("Promise 10, undo: NONE in a new object", Setups::fresh, MiddleClaims::undo, NONE);
        refused("Promise 10, undo: NONE if all states are gone", Setups::undone, MiddleClaims::undo, NONE);
        named("Promise 10, undo: 3, 2, 1 and 0 states are left of 4", () -> dueStatesBack(start(4), 3, 0));
        named("Promise 10, undo: this is no act, the second goes back further", () -> {
            MiddleClaims x = start(2);
            due("undo()", x.undo(), 1);
            due("undo()", x.undo(), 0);
            dueTold("undo()", told(x), told(start(0)));
        });
        named("Promise 10, undo: a new act records behind the states that are left", () -> {
            MiddleClaims x = start(4);
            x.undo();
            x.undo();
            x.add(0, 8, 0);
            due("count(9)", x.count(9), 3);
            dueStatesBack(x, 2, 0);
        });
        named("HISTORY: of many states the latest 4 are kept", () -> {
            MiddleClaims x = new MiddleClaims();
            for (int clause = 0; clause < 20; clause++) {
                x.add(0, clause + 1, 0);
                due("count(9)", x.count(9), Math.min(4, clause + 1));
            }
            for (int left = 3; left >= 0; left--) {
                due("undo()", x.undo(), left);
                due("count(0)", x.count(0), 16 + left);
                due("the last clause", x.clause(15 + left, 1), 16 + left);
            }
            due("undo() of none", x.undo(), NONE);
            due("count(0)", x.count(0), 16);
        });
        named("Promise 10, undo: from no clauses to 24 and back", () -> {
            MiddleClaims x = new MiddleClaims();
            x.keep();
            Checks.type(x, "a,b,c,d,e,f,a,b,c,d,e,f,a,b,c,d,e,f,a,b,c,d,e,-f");
            due("addAll()", x.addAll(), 24);
            due("restore()", x.restore(), 0);
            due("undo()", x.undo(), 1);
            due("count(0)", x.count(0), 24);
            dueClause(x, 0, 0, 1, 0);
            dueClause(x, 23, 0, 0, 32);
            due("undo()", x.undo(), 0);
            due("count(0)", x.count(0), 0);
        });
        named("Promise 10, undo: the proof is that of the state", () -> {
            MiddleClaims x = Checks.with("a/-a");
            x.remove(1);
            due("count(5)", x.count(5), 0);
            x.undo();
            due("count(5)", x.count(5), 1);
            due("step(2, 3)", x.step(2, 3), 1);
            x.undo();
            due("count(3)", x.count(3), 0);
        });
    }

    private void keep() {
        named("Promise 11, keep: no clauses, one, and 24", () -> {
            due("keep() of none", new MiddleClaims().keep(), 0);
            due("keep() of one", Checks.with("a").keep(), 1);
            MiddleClaims x = Setups.full();
            due("keep() of 24", x.keep(), 24);
            due("remove(0)", x.remove(0), 23);
            due("restore()", x.restore(), 24);
            due("the last clause", x.clause(23, 1), 23);
        });
        named("Promise 11, keep: in place of the snapshot that was", () -> {
            MiddleClaims x = start(0);
            due("keep()", x.keep(), 5);
            String kept = told(x);
            x.exchange();
            due("restore()", x.restore(), 5);
            dueTold("restore()", told(x), kept);
            x.remove(4);
            due("keep() of fewer", x.keep(), 4);
            x.undo();
            due("restore() of fewer", x.restore(), 4);
            due("no fifth clause", x.clause(4, 0), UNKNOWN);
        });
        named("Promise 11, keep: an empty state in place of a snapshot of one clause", () -> {
            MiddleClaims x = Checks.with("a");
            x.keep();
            x.undo();
            due("keep()", x.keep(), 0);
            due("restore()", x.restore(), 0);
            due("count(0)", x.count(0), 0);
        });
        named("Promise 11, keep: later acts do not change the snapshot", () -> {
            MiddleClaims x = start(0);
            x.keep();
            String kept = told(x);
            x.move(0);
            x.remove(1);
            x.add(1, 0, 63);
            x.shrink();
            x.undo();
            x.restore();
            dueTold("restore()", told(x), kept);
        });
        named("Promise 11, keep: it leaves the clauses, the text and the history", () -> {
            for (Looks.Part part : Looks.PARTS) {
                if (!part.name().equals("the snapshot")) {
                    MiddleClaims x = Setups.clashing();
                    due("keep()", x.keep(), 5);
                    String want = part.look().apply(Setups.clashing());
                    due(part.name() + " (1)", part.look().apply(x).equals(want) ? 1 : 0, 1);
                }
            }
        });
    }

    private void restore() {
        refused("Promise 12, restore: NONE in a new object", Setups::fresh, MiddleClaims::restore, NONE);
        refused("Promise 12, restore: NONE if nothing was kept", Setups::neverKept, MiddleClaims::restore, NONE);
        refused("Promise 12, restore: NONE without clauses, if nothing was kept",
            Setups::emptiedNeverKept, MiddleClaims::restore, NONE);
        named("Promise 12, restore: a snapshot of no clauses is one", () -> {
            MiddleClaims x = Setups.open();
            due("restore()", x.restore(), 0);
            due("count(0)", x.count(0), 0);
            due("an act", x.count(9), 2);
        });
        named("Promise 12, restore: the snapshot stays", () -> {
            MiddleClaims x = start(0);
            due("restore()", x.restore(), 1);
            dueClause(x, 0, 1, 32, 16);
            x.add(0, 1, 0);
            x.move(0);
            due("restore() again", x.restore(), 1);
            dueClause(x, 0, 1, 32, 16);
            x.remove(0);
            due("and again", x.restore(), 1);
            dueClause(x, 0, 1, 32, 16);
        });
        named("Promise 12, restore: this is an act also if nothing is different then", () -> {
            MiddleClaims x = Checks.with("a/-a");
            x.keep();
            due("restore()", x.restore(), 2);
            due("count(9)", x.count(9), 2);
            due("restore()", x.restore(), 2);
            due("count(9)", x.count(9), 3);
        });
        named("Promise 12, restore: the proof is that of the snapshot", () -> {
            MiddleClaims x = Checks.with("a/-a");
            x.keep();
            x.remove(0);
            due("count(5)", x.count(5), 0);
            x.restore();
            due("count(5)", x.count(5), 1);
            due("middle(0, 0)", x.middle(0, 0), (int) A);
        });
    }

    private void whatIsNoState() {
        named("HISTORY: undo leaves the text", () -> {
            MiddleClaims x = start(2);
            x.undo();
            due("count(10)", x.count(10), 6);
            x.clearText();
            x.undo();
            due("count(10)", x.count(10), 0);
        });
        named("HISTORY: undo leaves the snapshot", () -> {
            MiddleClaims x = new MiddleClaims();
            x.add(0, 1, 0);
            x.keep();
            x.undo();
            due("restore() of what was kept behind the state", x.restore(), 1);
            x.add(0, 2, 0);
            x.keep();
            x.undo();
            due("undo() leaves the later one", x.restore(), 2);
        });
        named("HISTORY: restore leaves the text", () -> {
            MiddleClaims x = start(0);
            x.keep();
            x.type('a');
            x.restore();
            due("count(10)", x.count(10), 7);
            due("addAll()", x.addAll(), -106);
        });
        named("HISTORY: restore leaves the history", () -> {
            MiddleClaims x = start(3);
            x.restore();
            dueStatesBack(x, 3, 0);
            x.keep();
            x.move(0);
            due("restore()", x.restore(), 5);
            due("no state of the time of keep() comes again", x.count(9), 2);
        });
        named("HISTORY: there is one snapshot for each object", () -> {
            MiddleClaims x = Checks.with("a");
            MiddleClaims y = Checks.with("b,c");
            x.keep();
            due("restore() of the other", y.restore(), NONE);
            due("its clauses", y.count(0), 2);
        });
    }

    private void calls() {
        named("What it is: the 512th call, behind 511 acts", () -> {
            MiddleClaims x = new MiddleClaims();
            for (int call = 1; call <= 508; call++) {
                due("call " + call, call % 2 == 1 ? x.add(call / 2 % 2, call % 63 + 1, 0) : x.remove(0), 0);
            }
            due("call 509", x.undo(), 3);
            due("call 510", x.undo(), 2);
            due("call 511", x.undo(), 1);
            due("call 512", x.undo(), 0);
        });
        named("What it is: the 512th call, a character", () -> {
            MiddleClaims x = new MiddleClaims();
            for (int call = 1; call <= 511; call++) {
                due("call " + call, call % 61 == 0 ? x.clearText() : x.type('a'), call % 61 == 0 ? 60 : call % 61);
            }
            due("call 512", x.type('a'), 512 % 61);
        });
        named("What it is: the 512th call, a snapshot", () -> {
            MiddleClaims x = new MiddleClaims();
            x.add(0, 1, 0);
            for (int call = 2; call <= 511; call++) {
                due("call " + call, call % 2 == 0 ? x.keep() : x.restore(), 1);
            }
            due("call 512", x.clause(0, 1), 1);
        });
        named("What it is: the 512th call, with a long proof behind each act", () -> {
            MiddleClaims x = Checks.of(ProofRows.EMPTY_CLAUSE_IS_400TH);
            for (int call = 22; call <= 510; call += 2) {
                due("call " + call, x.move(3), call / 2 % 2 == 1 ? 0 : 1);
                due("call " + (call + 1), x.step(399, 1), 0);
            }
            due("call 512", x.count(3), 400);
        });
    }
}
