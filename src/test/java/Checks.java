/** What the tests share: a row of characters to type, and a count of the calls answered wrongly. */
final class Checks {
    private int wrong = 0;
    private int all = 0;

    void due(String call, long got, long want) {
        all++;
        if (got != want) {
            wrong++;
            System.out.println(call + " answered " + got + ", due is " + want);
        }
    }

    static void type(MiddleClaims x, String characters) {
        for (char each : characters.toCharArray()) {
            x.type(each);
        }
    }

    /** A new object with the clauses of a text. */
    static MiddleClaims with(String characters) {
        MiddleClaims x = new MiddleClaims();
        type(x, characters);
        x.addAll();
        x.clearText();
        return x;
    }

    void end() {
        System.out.println(all + " answers looked at, " + wrong + " not as due");
        if (wrong != 0 || all == 0) {
            System.exit(1);
        }
    }
}
