/** Objects in the states from which the boundary cases start, made with no more than 125 calls. */
final class Setups {
    private Setups() {}

    static MiddleClaims fresh() {
        return new MiddleClaims();
    }

    /** Five clauses, c and -ad not needed; three states, a snapshot of four clauses, a text of three. */
    static MiddleClaims clashing() {
        MiddleClaims x = Checks.with("ab,-b/-a,c");
        x.keep();
        x.exchange();
        x.add(0, 8, 1);
        Checks.type(x, "d,-e/f");
        return x;
    }

    /** No clauses and no state, but a snapshot of one clause. */
    private static MiddleClaims kept() {
        MiddleClaims x = new MiddleClaims();
        x.add(1, 4, 8);
        x.keep();
        x.undo();
        return x;
    }

    private static MiddleClaims kept(String clauses, String text) {
        MiddleClaims x = kept();
        Checks.type(x, clauses);
        x.addAll();
        x.clearText();
        Checks.type(x, text);
        return x;
    }

    /** Two clauses that clash, one state, a snapshot of one clause, a text that ends too early. */
    static MiddleClaims allNeeded() {
        return kept("a/-a", "a,");
    }

    /** As allNeeded(), but without a snapshot. */
    static MiddleClaims neverKept() {
        MiddleClaims x = Checks.with("a/-a");
        Checks.type(x, "a,");
        return x;
    }

    /** Clauses whose middle claims are true everywhere, one state, a snapshot of one clause, a text of two. */
    static MiddleClaims trueClaims() {
        return kept("f/a,-a", "b,-c");
    }

    /** As trueClaims(), but they do not clash. */
    static MiddleClaims noClaims() {
        return kept("ab/-a", "b,-c");
    }

    /** 24 clauses, but room for states and characters; a snapshot of one clause. */
    static MiddleClaims noRoom() {
        return kept("a,b,c,d,e,f,a,b,c,d,e,f/a,b,c,d,e,f,a,b,c,d,e,f", "e/f");
    }

    /** Three clauses that do not clash, one state, an empty snapshot, an empty text. */
    static MiddleClaims open() {
        MiddleClaims x = new MiddleClaims();
        x.keep();
        Checks.type(x, "a,-bc/d");
        x.addAll();
        x.clearText();
        return x;
    }

    /** All that there is room for: 24 clauses that clash, 4 states, a text of 30 clauses. */
    static MiddleClaims full() {
        return fullBut("a,a,a,a,a,a,a,a,a,a,b,b,b,b,b,b,b,b,b,b/c,c,c,c,c,c,c,c,c,-d");
    }

    /** As full(), but the text has a fault at 50, behind 25 clauses. */
    static MiddleClaims fullWithFault() {
        return fullBut("a,a,a,a,a,a,a,a,a,a,b,b,b,b,b,b,b,b,b,b/c,c,c,c,c,,c,c,c,c,c");
    }

    private static MiddleClaims fullBut(String text) {
        MiddleClaims x = new MiddleClaims();
        x.add(0, 1, 0);
        x.add(1, 0, 1);
        x.keep();
        for (int clause = 2; clause < 24; clause++) {
            x.add(clause % 2, clause, 32);
        }
        Checks.type(x, text);
        return x;
    }

    /** 23 clauses, and a text of two. */
    static MiddleClaims roomForOne() {
        MiddleClaims x = full();
        x.remove(7);
        x.clearText();
        Checks.type(x, "e/f");
        return x;
    }

    /** 17 clauses that clash, whose empty clause would be the step 401; a snapshot of three. */
    static MiddleClaims unknown() {
        MiddleClaims x = new MiddleClaims();
        int[][] rows = ProofRows.EMPTY_CLAUSE_WOULD_BE_401ST;
        for (int clause = 0; clause < rows.length; clause++) {
            x.add(clause % 2, rows[clause][0], rows[clause][1]);
            if (clause == 2) {
                x.keep();
            }
        }
        Checks.type(x, "abc/-f");
        return x;
    }

    /** One clause, but no state is left to go back to; a snapshot of two clauses. */
    static MiddleClaims undone() {
        MiddleClaims x = new MiddleClaims();
        for (int clause = 0; clause < 5; clause++) {
            x.add(clause % 2, clause + 1, 8);
            if (clause == 1) {
                x.keep();
            }
        }
        for (int state = 0; state < 4; state++) {
            x.undo();
        }
        x.type('a');
        return x;
    }

    /** No clauses, but two states; a snapshot of one clause. */
    static MiddleClaims emptied() {
        MiddleClaims x = kept("a", "-");
        x.remove(0);
        return x;
    }

    /** No clauses, but two states; no snapshot. */
    static MiddleClaims emptiedNeverKept() {
        MiddleClaims x = Checks.with("a");
        x.remove(0);
        return x;
    }
}
