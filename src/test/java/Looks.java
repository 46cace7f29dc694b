import java.util.List;
import java.util.function.Function;

/**
 * All that the calls of an object tell, in parts: an object is used for 512 calls, and to look at its
 * text, history or snapshot changes it, so each part needs an object of its own. No part takes more
 * than 380 calls.
 */
final class Looks {
    record Part(String name, Function<MiddleClaims, String> look) {}

    static final List<Part> PARTS = List.of(
        new Part("the clauses", Looks::clauses),
        new Part("the sides, the claims and the counts", Looks::counts),
        new Part("the steps", Looks::steps),
        new Part("the partial claims", Looks::partialClaims),
        new Part("the text", Looks::text),
        new Part("the history", Looks::history),
        new Part("the snapshot", Looks::snapshot));

    private Looks() {}

    private static String clauses(MiddleClaims x) {
        StringBuilder told = new StringBuilder();
        for (int clause = -1; clause < 24; clause++) {
            for (int what = 0; what < 5; what++) {
                told.append(x.clause(clause, what)).append(' ');
            }
        }
        return told.append(x.count(0)).toString();
    }

    private static String counts(MiddleClaims x) {
        StringBuilder told = new StringBuilder();
        for (int what = 0; what < 11; what++) {
            told.append(x.count(what)).append(' ');
        }
        for (int one = 0; one < 2; one++) {
            for (int what = 0; what < 4; what++) {
                told.append(x.side(one, what)).append(' ');
            }
            for (int half = 0; half < 2; half++) {
                told.append(x.middle(one, half)).append(' ');
                told.append(x.outermost(one == 1, half)).append(' ');
            }
        }
        told.append(x.test(0, 0)).append(' ').append(x.test(-1, -1)).append(' ');
        return told.append(x.test(x.middle(0, 0), x.middle(0, 1))).append(' ').append(x.compare()).toString();
    }

    private static String steps(MiddleClaims x) {
        StringBuilder told = new StringBuilder();
        told.append(x.count(3)).append(' ');
        int apart = 1 + x.count(3) / 60;
        for (int step = 0; step < 60; step++) {
            for (int what = 0; what < 6; what++) {
                told.append(x.step(step * apart, what)).append(' ');
            }
        }
        return told.toString();
    }

    private static String partialClaims(MiddleClaims x) {
        StringBuilder told = new StringBuilder();
        int steps = x.count(3);
        for (int look = 0; look < 180; look++) {
            int step = look * 7 % (steps + 1);
            told.append(x.partial(step, 0, look * 5 % 64)).append(' ');
            told.append(x.partial(step, 1, look * 5 % 64)).append(' ');
        }
        return told.toString();
    }

    private static String rows(MiddleClaims x) {
        StringBuilder told = new StringBuilder();
        int clauses = x.count(0);
        for (int clause = 0; clause < clauses; clause++) {
            told.append(x.clause(clause, 0)).append(':');
            told.append(x.clause(clause, 1)).append('-').append(x.clause(clause, 2)).append(' ');
        }
        return told.append("of ").append(clauses).toString();
    }

    private static String text(MiddleClaims x) {
        StringBuilder told = new StringBuilder();
        told.append(x.count(10)).append(' ').append(x.addAll()).append(' ');
        while (x.count(0) > 0) {
            x.remove(0);
        }
        // Now there is room for the text, so that each of its clauses is told, if it has no fault.
        told.append(x.addAll()).append(' ').append(rows(x)).append(' ');
        // A letter more shows what the end of the text waits for.
        told.append(x.type('f')).append(' ').append(x.addAll()).append(' ').append(x.clearText());
        return told.toString();
    }

    private static String history(MiddleClaims x) {
        StringBuilder told = new StringBuilder();
        for (int state = 0; state < 5; state++) {
            told.append(x.undo()).append(": ").append(rows(x)).append("; ");
        }
        return told.toString();
    }

    private static String snapshot(MiddleClaims x) {
        StringBuilder told = new StringBuilder();
        return told.append(x.restore()).append(": ").append(rows(x)).append(' ').append(x.count(9)).toString();
    }
}
