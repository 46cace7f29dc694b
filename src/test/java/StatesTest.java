/** Promises 8 to 12: typing, the history and the snapshot. */
public final class StatesTest {
    private static final Checks CHECKS = new Checks();

    private static void due(String call, long got, long want) {
        CHECKS.due(call, got, want);
    }

    public static void main(String[] args) {
        typeTellsTheLength();
        clearTextEmpties();
        undoGoesBack();
        fourStatesAreKept();
        noActRecords();
        keepAndRestore();
        textIsNoState();
        objectsAreApart();
        CHECKS.end();
    }

    private static void typeTellsTheLength() {
        MiddleClaims x = new MiddleClaims();
        for (int length = 1; length <= 60; length++) {
            due("type, as character " + length, x.type((char) (length * 1000)), length);
        }
        due("the 61st", x.type('a'), -3);
        due("the length", x.count(10), 60);
        due("no act", x.count(9), 0);
        due("the fault", x.addAll(), -100);
        due("clearText()", x.clearText(), 60);
        due("type('b')", x.type('b'), 1);
        due("the 61st is not in it", x.addAll(), 1);
        due("b", x.clause(0, 1), 2);
        // Behind 60 characters the one that was refused would end the text.
        x.clearText();
        Checks.type(x, "a,a,a,a,a,a,a,a,a,a,a,a,a,a,a,a,a,a,a,a,a,a,a,a,a,a,a,a,a,a,");
        due("a letter behind 60", x.type('a'), -3);
        due("it ends too early", x.addAll(), -160);
    }

    private static void clearTextEmpties() {
        MiddleClaims x = new MiddleClaims();
        due("clearText() of none", x.clearText(), 0);
        Checks.type(x, "a/-a");
        due("clearText()", x.clearText(), 4);
        due("clearText() again", x.clearText(), 0);
        due("the length", x.count(10), 0);
        due("addAll()", x.addAll(), -100);
        due("no act", x.count(9), 0);
        Checks.type(x, "b");
        due("the text anew", x.addAll(), 1);
        due("is of the side 0 again", x.clause(0, 0), 0);
    }

    private static void undoGoesBack() {
        MiddleClaims x = new MiddleClaims();
        x.add(0, 1, 0);
        x.add(1, 0, 1);
        x.move(1);
        x.remove(0);
        due("undo() of remove", x.undo(), 3);
        due("the clause is there", x.clause(0, 1), 1);
        due("on its side", x.clause(1, 0), 0);
        due("undo() of move", x.undo(), 2);
        due("on the other side", x.clause(1, 0), 1);
        due("the claim", x.middle(0, 0), 0xAAAAAAAA);
        due("undo() of add", x.undo(), 1);
        due("the proof of one clause", x.count(3), 1);
        due("undo() of the first", x.undo(), 0);
        due("no clauses", x.count(0), 0);
        due("undo() of none", x.undo(), -5);
        due("the history", x.count(9), 0);
    }

    private static void fourStatesAreKept() {
        MiddleClaims x = new MiddleClaims();
        for (int clause = 0; clause < 7; clause++) {
            x.add(0, clause + 1, 0);
            due("the history", x.count(9), Math.min(4, clause + 1));
        }
        for (int left = 3; left >= 0; left--) {
            due("undo()", x.undo(), left);
            due("the clauses", x.count(0), left + 3);
        }
        due("undo() of none", x.undo(), -5);
        due("the oldest that is kept", x.count(0), 3);
        x.add(0, 9, 0);
        x.add(0, 10, 0);
        due("undo() of a new one", x.undo(), 1);
        due("the clauses then", x.count(0), 4);
        due("the latest", x.clause(3, 1), 9);
    }

    private static void noActRecords() {
        MiddleClaims x = Checks.with("a,b/-a");
        due("one act", x.count(9), 1);
        x.add(2, 1, 0);
        x.add(0, 0, 0);
        x.remove(3);
        x.move(-1);
        x.restore();
        x.addAll();
        x.type('a');
        x.clearText();
        x.keep();
        x.step(0, 0);
        x.partial(0, 0, 0);
        x.test(1, 2);
        due("still one", x.count(9), 1);
        due("shrink()", x.shrink(), 2);
        due("another act", x.count(9), 2);
        due("shrink() of what is needed", x.shrink(), -5);
        due("is none", x.count(9), 2);
    }

    private static void keepAndRestore() {
        MiddleClaims x = new MiddleClaims();
        due("restore() of none", x.restore(), -5);
        due("keep() of none", x.keep(), 0);
        Checks.type(x, "a,b/-a");
        x.addAll();
        due("restore() of an empty one", x.restore(), 0);
        due("the clauses", x.count(0), 0);
        due("the history", x.count(9), 2);
        due("undo() of restore", x.undo(), 1);
        due("the clauses again", x.count(0), 3);
        due("keep()", x.keep(), 3);
        due("keep() is no act", x.count(9), 1);
        x.exchange();
        x.remove(0);
        due("restore()", x.restore(), 3);
        due("an act", x.count(9), 4);
        due("side of the first", x.clause(0, 0), 0);
        due("side of the last", x.clause(2, 0), 1);
        due("opposites of the last", x.clause(2, 2), 1);
        due("its claim", x.middle(1, 1), 0xAAAAAAAA);
        due("restore() again", x.restore(), 3);
        due("is an act too", x.count(9), 4);
        x.remove(1);
        due("keep() in place of it", x.keep(), 2);
        x.undo();
        due("undo() leaves the snapshot", x.restore(), 2);
        due("no b", x.clause(1, 2), 1);
    }

    private static void textIsNoState() {
        MiddleClaims x = new MiddleClaims();
        Checks.type(x, "a");
        x.addAll();
        x.keep();
        Checks.type(x, ",b");
        x.undo();
        due("undo() leaves the text", x.count(10), 3);
        x.restore();
        due("restore() leaves the text", x.count(10), 3);
        due("restore() leaves the history", x.count(9), 1);
    }

    private static void objectsAreApart() {
        MiddleClaims x = Checks.with("a");
        MiddleClaims y = Checks.with("b,c");
        x.keep();
        due("restore() of the other", y.restore(), -5);
        due("clauses of the one", x.count(0), 1);
        due("clauses of the other", y.count(0), 2);
    }
}
