import java.util.LinkedHashMap;
import java.util.Map;
import java.util.Set;
import java.util.function.Supplier;
import java.util.function.ToIntFunction;

/** What is said of ERRORS: their constants, the order of the checks, and that what is told changes nothing. */
public final class EdgesOfErrorsTest extends EdgeCases {
    public static void main(String[] args) {
        EdgesOfErrorsTest test = new EdgesOfErrorsTest();
        test.constants();
        test.ordersOfActs();
        test.ordersOfWhatIsTold();
        test.whatIsToldChangesNothing();
        test.typingChangesTheTextAlone();
        test.end();
    }

    private void constants() {
        named("ERRORS: the constants", () -> {
            due("UNKNOWN", MiddleClaims.UNKNOWN, UNKNOWN);
            due("BAD_VALUE", MiddleClaims.BAD_VALUE, BAD_VALUE);
            due("FULL", MiddleClaims.FULL, FULL);
            due("NOT_POSSIBLE", MiddleClaims.NOT_POSSIBLE, NOT_POSSIBLE);
            due("NONE", MiddleClaims.NONE, NONE);
        });
    }

    private void ahead(String call, String order, Supplier<MiddleClaims> made, ToIntFunction<MiddleClaims> calls,
            int want) {
        refused("ERRORS: " + call + ", " + order, made, calls, want);
    }

    private void ordersOfActs() {
        String order = "UNKNOWN ahead of BAD_VALUE";
        ahead("add(2, 64, 0)", order, Setups::clashing, x -> x.add(2, 64, 0), UNKNOWN);
        ahead("add(2, 0, 64)", order, Setups::clashing, x -> x.add(2, 0, 64), UNKNOWN);
        ahead("add(-1, 0, 0)", order, Setups::clashing, x -> x.add(-1, 0, 0), UNKNOWN);
        ahead("add(-1, 1, 1)", order, Setups::clashing, x -> x.add(-1, 1, 1), UNKNOWN);
        ahead("add(MIN, MIN, MIN)", order, Setups::clashing, x -> x.add(MIN, MIN, MIN), UNKNOWN);
        ahead("add(MAX, MAX, MAX)", order, Setups::clashing, x -> x.add(MAX, MAX, MAX), UNKNOWN);
        order = "UNKNOWN ahead of FULL";
        ahead("add(2, 1, 0)", order, Setups::full, x -> x.add(2, 1, 0), UNKNOWN);
        ahead("add(-1, 1, 0)", order, Setups::full, x -> x.add(-1, 1, 0), UNKNOWN);
        order = "BAD_VALUE ahead of FULL";
        ahead("add(0, 64, 0)", order, Setups::full, x -> x.add(0, 64, 0), BAD_VALUE);
        ahead("add(1, 0, 64)", order, Setups::full, x -> x.add(1, 0, 64), BAD_VALUE);
        ahead("add(1, -1, 0)", order, Setups::full, x -> x.add(1, -1, 0), BAD_VALUE);
        ahead("add(0, 0, 0)", order, Setups::full, x -> x.add(0, 0, 0), BAD_VALUE);
        ahead("add(0, 32, 48)", order, Setups::full, x -> x.add(0, 32, 48), BAD_VALUE);
        order = "UNKNOWN ahead of BAD_VALUE ahead of FULL";
        ahead("add(2, 0, 0)", order, Setups::full, x -> x.add(2, 0, 0), UNKNOWN);
        ahead("add(-1, 64, 64)", order, Setups::full, x -> x.add(-1, 64, 64), UNKNOWN);
        ahead("addAll()", "the fault ahead of FULL", Setups::fullWithFault, MiddleClaims::addAll, -150);
        ahead("addAll()", "FULL without a fault", Setups::full, MiddleClaims::addAll, FULL);
        ahead("addAll()", "FULL if there is room for one of two", Setups::roomForOne, MiddleClaims::addAll, FULL);
        ahead("shrink()", "NOT_POSSIBLE ahead of NONE without clauses", Setups::fresh, MiddleClaims::shrink,
            NOT_POSSIBLE);
    }

    private void ordersOfWhatIsTold() {
        String order = "UNKNOWN ahead of BAD_VALUE";
        for (int far : beyond(5)) {
            ahead("clause(" + far + ", " + far + ")", order, Setups::clashing, x -> x.clause(far, far), UNKNOWN);
        }
        for (int far : beyond(17)) {
            ahead("clause(" + far + ", 5) without a known proof", order,
                Setups::unknown, x -> x.clause(far, 5), UNKNOWN);
        }
        for (int far : beyond(2)) {
            ahead("side(" + far + ", 4)", order, Setups::clashing, x -> x.side(far, 4), UNKNOWN);
            ahead("side(" + far + ", -1)", order, Setups::fresh, x -> x.side(far, -1), UNKNOWN);
            ahead("side(" + far + ", 3)", "UNKNOWN ahead of NONE",
                () -> Checks.with("a,-a/b,-b"), x -> x.side(far, 3), UNKNOWN);
        }
        for (int far : beyond(3)) {
            ahead("step(" + far + ", 6)", order, Setups::allNeeded, x -> x.step(far, 6), UNKNOWN);
            ahead("step(" + far + ", -1)", order, Setups::allNeeded, x -> x.step(far, -1), UNKNOWN);
            ahead("step(" + far + ", 4)", "UNKNOWN ahead of NONE", Setups::allNeeded, x -> x.step(far, 4), UNKNOWN);
            ahead("step(" + far + ", 0)", "NOT_POSSIBLE ahead of UNKNOWN",
                Setups::unknown, x -> x.step(far, 0), NOT_POSSIBLE);
            ahead("step(" + far + ", 6)", "NOT_POSSIBLE ahead of UNKNOWN ahead of BAD_VALUE",
                Setups::unknown, x -> x.step(far, 6), NOT_POSSIBLE);
            ahead("partial(" + far + ", 2, 0)", order, Setups::allNeeded, x -> x.partial(far, 2, 0), UNKNOWN);
            ahead("partial(" + far + ", 0, 64)", order, Setups::allNeeded, x -> x.partial(far, 0, 64), UNKNOWN);
            ahead("partial(" + far + ", -1, -1)", order, Setups::allNeeded, x -> x.partial(far, -1, -1), UNKNOWN);
        }
        order = "NOT_POSSIBLE ahead of BAD_VALUE";
        ahead("step(0, 6)", order, Setups::unknown, x -> x.step(0, 6), NOT_POSSIBLE);
        ahead("step(0, -1)", order, Setups::unknown, x -> x.step(0, -1), NOT_POSSIBLE);
        ahead("step(0, 2)", "NOT_POSSIBLE ahead of NONE", Setups::unknown, x -> x.step(0, 2), NOT_POSSIBLE);
        Map<String, Supplier<MiddleClaims>> without = new LinkedHashMap<>();
        without.put("no clash", Setups::open);
        without.put("no known proof", Setups::unknown);
        for (String state : without.keySet()) {
            Supplier<MiddleClaims> made = without.get(state);
            ahead("partial(0, 2, 0)", order + ", " + state, made, x -> x.partial(0, 2, 0), NOT_POSSIBLE);
            ahead("partial(0, 0, 64)", order + ", " + state, made, x -> x.partial(0, 0, 64), NOT_POSSIBLE);
            ahead("partial(400, 0, 0)", "NOT_POSSIBLE ahead of UNKNOWN, " + state,
                made, x -> x.partial(400, 0, 0), NOT_POSSIBLE);
            ahead("partial(-1, -1, -1)", "NOT_POSSIBLE ahead of UNKNOWN ahead of BAD_VALUE, " + state,
                made, x -> x.partial(-1, -1, -1), NOT_POSSIBLE);
        }
    }

    private void whatIsToldChangesNothing() {
        Map<String, Supplier<MiddleClaims>> states = new LinkedHashMap<>();
        states.put("five clauses that clash", Setups::clashing);
        states.put("no clash", Setups::open);
        states.put("no known proof", Setups::unknown);
        states.put("all that there is room for", Setups::full);
        Map<String, ToIntFunction<MiddleClaims>> calls = new LinkedHashMap<>();
        for (int what = 0; what < 11; what++) {
            int one = what;
            calls.put("count(" + what + ")", x -> x.count(one));
            if (what < 6) {
                calls.put("clause(1, " + what + ")", x -> x.clause(1, one));
                calls.put("side(1, " + what + ")", x -> x.side(1, one));
                calls.put("step(1, " + what + ")", x -> x.step(1, one));
            }
        }
        calls.put("partial(1, 0, 5)", x -> x.partial(1, 0, 5));
        calls.put("partial(2, 1, 63)", x -> x.partial(2, 1, 63));
        calls.put("middle(0, 1)", x -> x.middle(0, 1));
        calls.put("middle(1, 0)", x -> x.middle(1, 0));
        calls.put("outermost(false, 0)", x -> x.outermost(false, 0));
        calls.put("outermost(true, 1)", x -> x.outermost(true, 1));
        calls.put("test(1, -1)", x -> x.test(1, -1));
        calls.put("compare()", MiddleClaims::compare);
        for (String call : calls.keySet()) {
            for (String state : states.keySet()) {
                named("What is told changes nothing: " + call + ", " + state,
                    () -> dueUnchanged(states.get(state), calls.get(call)));
            }
        }
    }

    private void typingChangesTheTextAlone() {
        Map<String, ToIntFunction<MiddleClaims>> calls = new LinkedHashMap<>();
        calls.put("type", x -> x.type('a'));
        calls.put("clearText", MiddleClaims::clearText);
        Set<String> parts = Set.of("the clauses", "the steps", "the partial claims", "the history", "the snapshot");
        for (String call : calls.keySet()) {
            named("Promises 8 and 9: " + call + " changes the text alone", () -> {
                for (Looks.Part part : Looks.PARTS) {
                    if (parts.contains(part.name())) {
                        MiddleClaims x = Setups.clashing();
                        calls.get(call).applyAsInt(x);
                        String want = part.look().apply(Setups.clashing());
                        due(part.name() + " (1)", part.look().apply(x).equals(want) ? 1 : 0, 1);
                    }
                }
            });
        }
    }
}
