/** What the tests share: objects with clauses, and a count of the calls answered wrongly. */
final class Checks {
    private int wrong = 0;
    private int all = 0;

    void due(String call, long got, long want) {
        all++;
        if (got != want) {
            wrong++;
            System.out.println(call + " answered " + got + ", due is " + want);
        }
    }

    static void type(MiddleClaims x, String characters) {
        for (char each : characters.toCharArray()) {
            x.type(each);
        }
    }

    /** A new object with the clauses of a text. */
    static MiddleClaims with(String characters) {
        MiddleClaims x = new MiddleClaims();
        type(x, characters);
        x.addAll();
        x.clearText();
        return x;
    }

    /** A new object with the clauses (signs, opposites), one by one on the sides 0 and 1. */
    static MiddleClaims of(int[][] rows) {
        MiddleClaims x = new MiddleClaims();
        for (int clause = 0; clause < rows.length; clause++) {
            x.add(clause % 2, rows[clause][0], rows[clause][1]);
        }
        return x;
    }

    void end() {
        System.out.println(all + " answers looked at, " + wrong + " not as due");
        if (wrong != 0 || all == 0) {
            System.exit(1);
        }
    }
}
