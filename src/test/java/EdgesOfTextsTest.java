/** The boundary cases of the promises 3, 8 and 9, and of what is said of TEXTS. */
public final class EdgesOfTextsTest extends EdgeCases {
    /** 60 characters, 9 clauses. */
    private static final String LONGEST = "abcdef,abcdef,abcdef,abcdef,abcdef,abcdef,abcdef,abcdef,ab-f";

    public static void main(String[] args) {
        EdgesOfTextsTest test = new EdgesOfTextsTest();
        test.typing();
        test.anyCharacter();
        test.clearing();
        test.clausesOfTexts();
        test.faultsAtTheEnd();
        test.faultsOfSigns();
        test.faultsOfSeparators();
        test.faultsOfOtherCharacters();
        test.allCharacters();
        test.allShortTexts();
        test.everyPlaceOfTheLongest();
        test.roomFor24();
        test.addAllIsOneAct();
        test.end();
    }

    private static MiddleClaims typed(String text) {
        MiddleClaims x = new MiddleClaims();
        x.add(1, 32, 0);
        Checks.type(x, text);
        return x;
    }

    private void dueFault(String sentence, String text, int fault) {
        refused(sentence + ": \"" + text + "\"", () -> typed(text), MiddleClaims::addAll, -100 - fault);
    }

    /** The text is read into an object that has one clause; each row is a side, signs and opposites. */
    private void dueClauses(String sentence, String text, int[]... rows) {
        named(sentence + ": \"" + text + "\"", () -> {
            MiddleClaims x = typed(text);
            due("addAll()", x.addAll(), rows.length);
            due("count(0)", x.count(0), rows.length + 1);
            for (int clause = 0; clause < rows.length; clause++) {
                dueClause(x, clause + 1, rows[clause][0], rows[clause][1], rows[clause][2]);
            }
        });
    }

    private static int[] row(int side, int signs, int opposites) {
        return new int[] {side, signs, opposites};
    }

    private void typing() {
        named("Promise 8, type: the lengths 1 to 60", () -> {
            MiddleClaims x = new MiddleClaims();
            for (int length = 1; length <= 60; length++) {
                due("type('a')", x.type('a'), length);
                due("count(10)", x.count(10), length);
            }
        });
        refused("Promise 8, type: the 61st character is FULL", Setups::full, x -> x.type('a'), FULL);
        refused("Promise 8, type: the 61st character is FULL also if it is none of a text",
            Setups::fullWithFault, x -> x.type((char) 0), FULL);
        for (char character : new char[] {'a', '-', ',', 0, 0xFFFF}) {
            refused("Promise 8, type: the 61st character, " + (int) character + ", is FULL and not in the text",
                () -> typed(LONGEST), x -> x.type(character), FULL);
        }
        named("Promise 8, type: emptied, there is room for 60 again", () -> {
            MiddleClaims x = Setups.full();
            x.clearText();
            for (int length = 1; length <= 60; length++) {
                due("type('b')", x.type('b'), length);
            }
            due("the 61st", x.type('b'), FULL);
        });
        named("Promise 8, type: the character comes behind the text", () -> {
            MiddleClaims x = new MiddleClaims();
            Checks.type(x, "a-b");
            due("type('c')", x.type('c'), 4);
            due("addAll()", x.addAll(), 1);
            dueClause(x, 0, 0, 5, 2);
        });
        named("Promise 8, type: this is no act", () -> {
            MiddleClaims x = Setups.clashing();
            x.type('a');
            due("count(9)", x.count(9), 3);
        });
    }

    private void anyCharacter() {
        for (int number : new int[] {0, 1, 32, 127, 128, 255, 256, 0x161, 0x7FFF, 0x8000, 0xFFFF}) {
            named("Promise 8, type: any character, also the one of the number " + number, () -> {
                MiddleClaims x = new MiddleClaims();
                due("type", x.type((char) number), 1);
                due("count(10)", x.count(10), 1);
                due("addAll()", x.addAll(), -100);
            });
        }
    }

    private void clearing() {
        named("Promise 9, clearText: the empty text has the length 0", () -> {
            MiddleClaims x = new MiddleClaims();
            due("clearText()", x.clearText(), 0);
            due("count(10)", x.count(10), 0);
        });
        named("Promise 9, clearText: one character, then none", () -> {
            MiddleClaims x = new MiddleClaims();
            x.type('-');
            due("clearText()", x.clearText(), 1);
            due("clearText() again", x.clearText(), 0);
            due("the empty text ends too early", x.addAll(), -100);
        });
        named("Promise 9, clearText: 60 characters", () -> {
            MiddleClaims x = Setups.full();
            due("clearText()", x.clearText(), 60);
            due("count(10)", x.count(10), 0);
            due("type('a')", x.type('a'), 1);
        });
        named("Promise 9, clearText: this is no act, and leaves the clauses", () -> {
            MiddleClaims x = Setups.clashing();
            due("clearText()", x.clearText(), 6);
            due("count(9)", x.count(9), 3);
            due("count(0)", x.count(0), 5);
            due("the snapshot", x.restore(), 4);
        });
        named("Promise 9, clearText: nothing of the text is left for the next one", () -> {
            MiddleClaims x = new MiddleClaims();
            Checks.type(x, "a/-");
            x.clearText();
            x.type('b');
            due("addAll()", x.addAll(), 1);
            dueClause(x, 0, 0, 2, 0);
        });
    }

    private void clausesOfTexts() {
        for (int sign = 0; sign < 6; sign++) {
            char letter = (char) ('a' + sign);
            dueClauses("TEXTS: a letter alone", "" + letter, row(0, 1 << sign, 0));
            dueClauses("TEXTS: a \"-\" and a letter alone", "-" + letter, row(0, 0, 1 << sign));
        }
        dueClauses("TEXTS: all six letters", "abcdef", row(0, 63, 0));
        dueClauses("TEXTS: all six with \"-\"", "-a-b-c-d-e-f", row(0, 0, 63));
        dueClauses("TEXTS: signs that rise by more than one", "a-cf", row(0, 33, 4));
        dueClauses("TEXTS: an f may end a clause ahead of \",\" and \"/\"", "f,-f/ef,-e-f",
            row(0, 32, 0), row(0, 0, 32), row(1, 48, 0), row(1, 0, 48));
        dueClauses("TEXTS: signs rise anew in each clause", "f,a/f,a,-a",
            row(0, 32, 0), row(0, 1, 0), row(1, 32, 0), row(1, 1, 0), row(1, 0, 1));
        dueClauses("TEXTS: all of the side 0 without \"/\"", "a,b,c", row(0, 1, 0), row(0, 2, 0), row(0, 4, 0));
        dueClauses("TEXTS: \"/\" in the first place", "a/b,c", row(0, 1, 0), row(1, 2, 0), row(1, 4, 0));
        dueClauses("TEXTS: \"/\" in the last place", "a,b/c", row(0, 1, 0), row(0, 2, 0), row(1, 4, 0));
        dueClauses("TEXTS: the same clause on both sides", "ab/ab", row(0, 3, 0), row(1, 3, 0));
        named("TEXTS: 60 characters", () -> {
            MiddleClaims x = typed(LONGEST);
            due("count(10)", x.count(10), 60);
            due("addAll()", x.addAll(), 9);
            dueClause(x, 8, 0, 63, 0);
            dueClause(x, 9, 0, 3, 32);
        });
    }

    private void faultsAtTheEnd() {
        dueFault("TEXTS: the empty text ends too early", "", 0);
        dueFault("TEXTS: it ends too early behind a \"-\"", "-", 1);
        dueFault("TEXTS: it ends too early behind a \"-\"", "abcde-", 6);
        dueFault("TEXTS: it ends too early behind a \",\"", "a,", 2);
        dueFault("TEXTS: it ends too early behind a \"/\"", "a/", 2);
        dueFault("TEXTS: it ends too early behind a \",\"", "a/f,", 4);
        dueFault("TEXTS: it ends too early behind a \"-\"", "a/b,-", 5);
        String most = LONGEST.substring(0, 59);
        dueFault("TEXTS: 59 characters end too early", most, 59);
        dueFault("TEXTS: 60 characters end too early behind a \"-\"", LONGEST.substring(0, 58) + "e-", 60);
        dueFault("TEXTS: 60 characters end too early behind a \",\"", LONGEST.substring(0, 58) + "c,", 60);
        dueFault("TEXTS: 60 characters end too early behind a \"/\"", LONGEST.substring(0, 58) + "c/", 60);
    }

    private void faultsOfSigns() {
        for (char letter = 'a'; letter <= 'f'; letter++) {
            dueFault("TEXTS: no letter twice in a clause", "" + letter + letter, 1);
            if (letter < 'f') {
                dueFault("TEXTS: no letter behind it again with \"-\"", letter + "-" + letter, 2);
                dueFault("TEXTS: no letter again behind its \"-\"", "-" + letter + "-" + letter, 3);
                dueFault("TEXTS: signs rise", (char) (letter + 1) + "" + letter, 1);
                dueFault("TEXTS: no letter behind an f", "f" + letter, 1);
            }
            dueFault("TEXTS: no letter behind a -f", "-f" + letter, 2);
        }
        dueFault("TEXTS: no \"-\" behind an f", "f-", 1);
        dueFault("TEXTS: no \"-\" behind an f, with a letter", "f-a", 1);
        dueFault("TEXTS: no \"-\" behind a -f", "-f-", 2);
        dueFault("TEXTS: no \"-\" behind an f that ends a long clause", "abcdef-", 6);
        dueFault("TEXTS: no f behind an f that ends a long clause", "abcdeff", 6);
        dueFault("TEXTS: a \"-\" may follow an e", "e-e", 2);
        dueFault("TEXTS: signs rise, also with \"-\"", "-c-b", 3);
        dueFault("TEXTS: signs rise in the second clause too", "f,ca", 3);
        dueFault("TEXTS: signs rise behind a \"/\" too", "a/d-c", 4);
        dueFault("TEXTS: no \"-\" behind a \"-\"", "--", 1);
        dueFault("TEXTS: no \"-\" behind a \"-\", with a letter", "a--b", 2);
        dueFault("TEXTS: signs rise from the latest, not from the first", "adc", 2);
    }

    private void faultsOfSeparators() {
        dueFault("TEXTS: no clause of no literals at the start, ahead of \",\"", ",a", 0);
        dueFault("TEXTS: no clause of no literals at the start, ahead of \"/\"", "/a", 0);
        dueFault("TEXTS: no clause of no literals between", "a,,b", 2);
        dueFault("TEXTS: no clause of no literals ahead of \"/\"", "a,/b", 2);
        dueFault("TEXTS: no clause of no literals behind \"/\"", "a/,b", 2);
        dueFault("TEXTS: no \"/\" behind a \"/\"", "a//b", 2);
        dueFault("TEXTS: no second \"/\"", "a/b/c", 3);
        dueFault("TEXTS: no second \"/\", also far behind", "a/b,c,d/e", 7);
        dueFault("TEXTS: no \",\" behind a \"-\"", "-,a", 1);
        dueFault("TEXTS: no \"/\" behind a \"-\"", "-/a", 1);
        dueFault("TEXTS: the first of two faults", "a,,b//", 2);
    }

    private void faultsOfOtherCharacters() {
        for (int number : new int[] {0, ' ', '+', '.', '0', 'A', 'F', '`', 'g', 'z', 127, 128, 255, 256, 0x161,
                0x12C, 0x12D, 0x12F, 0x8061, 0xFFFF}) {
            String character = "" + (char) number;
            refused("TEXTS: the character of the number " + number + " is not allowed at the start",
                () -> typed(character), MiddleClaims::addAll, -100);
            refused("TEXTS: the character of the number " + number + " is not allowed behind a letter",
                () -> typed("a" + character + "b"), MiddleClaims::addAll, -101);
            refused("TEXTS: the character of the number " + number + " is not allowed behind a \"-\"",
                () -> typed("a,-" + character), MiddleClaims::addAll, -103);
            refused("TEXTS: the character of the number " + number + " is not allowed behind a \"/\"",
                () -> typed("a/" + character), MiddleClaims::addAll, -102);
        }
    }

    private void allCharacters() {
        named("TEXTS: of all 65,536 characters only letters from a to f and \"-\" begin a text", () ->
            dueForAllCharacters("", "abcdef", "-"));
        named("TEXTS: of all 65,536 characters only letters that rise, \"-\", \",\" and \"/\" go on behind a c", () ->
            dueForAllCharacters("c", "def", "-,/"));
        named("TEXTS: of all 65,536 characters only letters that rise go on behind a c and a \"-\"", () ->
            dueForAllCharacters("c-", "def", ""));
        named("TEXTS: of all 65,536 characters only \",\" and \"/\" go on behind an f", () ->
            dueForAllCharacters("f", "", ",/"));
    }

    /** Behind the beginning these may end a text of one clause, those need something more, no other may come. */
    private void dueForAllCharacters(String beginning, String ends, String goesOn) {
        MiddleClaims x = new MiddleClaims();
        for (int number = 0; number <= 0xFFFF; number++) {
            if (number % 60 == 0) {
                x = new MiddleClaims();
            }
            Checks.type(x, beginning + (char) number);
            int at = beginning.length();
            int want = ends.indexOf(number) >= 0 ? 1 : goesOn.indexOf(number) >= 0 ? -101 - at : -100 - at;
            due("addAll(), the character of the number " + number, x.addAll(), want);
            due("clearText()", x.clearText(), at + 1);
            due("undo()", x.undo(), want == 1 ? 0 : NONE);
        }
    }

    /** Whether a text of clauses: said by its form alone, without going through its characters. */
    private static boolean isText(String text) {
        String clause = "(?=[-a-f])(-?a)?(-?b)?(-?c)?(-?d)?(-?e)?(-?f)?";
        String clauses = clause + "(," + clause + ")*";
        return text.matches(clauses + "(/" + clauses + ")?");
    }

    /** An f can end whatever may go on, but what may end already. */
    private static boolean isBeginning(String text) {
        return isText(text) || isText(text + "f");
    }

    private static int faultOf(String text) {
        for (int at = 0; at < text.length(); at++) {
            if (!isBeginning(text.substring(0, at + 1))) {
                return at;
            }
        }
        return isText(text) ? -1 : text.length();
    }

    private void allShortTexts() {
        String characters = "aefg-,/";
        named("TEXTS: all texts of up to 6 of the characters " + characters, () -> {
            for (int length = 0, many = 1; length <= 6; length++, many *= characters.length()) {
                for (int number = 0; number < many; number++) {
                    StringBuilder text = new StringBuilder();
                    for (int rest = number, at = 0; at < length; at++, rest /= characters.length()) {
                        text.append(characters.charAt(rest % characters.length()));
                    }
                    dueAsItsForm(text.toString());
                }
            }
        });
    }

    private void dueAsItsForm(String text) {
        MiddleClaims x = new MiddleClaims();
        Checks.type(x, text);
        int fault = faultOf(text);
        int want = fault >= 0 ? -100 - fault : text.split("[,/]").length;
        due("addAll() of \"" + text + "\"", x.addAll(), want);
    }

    private void everyPlaceOfTheLongest() {
        named("TEXTS: each place of 60 characters can have the fault", () -> {
            for (int at = 0; at < 60; at++) {
                MiddleClaims x = new MiddleClaims();
                Checks.type(x, LONGEST.substring(0, at) + "g" + LONGEST.substring(at + 1));
                due("addAll(), a g at " + at, x.addAll(), -100 - at);
                due("count(0)", x.count(0), 0);
            }
        });
    }

    /** That many clauses of one letter. */
    private static String letters(int many) {
        StringBuilder text = new StringBuilder("a");
        for (int clause = 1; clause < many; clause++) {
            text.append(clause == 12 ? '/' : ',').append((char) ('a' + clause % 6));
        }
        return text.toString();
    }

    private static MiddleClaims withRoom(int room, String text) {
        MiddleClaims x = new MiddleClaims();
        for (int clause = 0; clause < 24 - room; clause++) {
            x.add(clause % 2, clause + 1, 32);
        }
        Checks.type(x, text);
        return x;
    }

    private void roomFor24() {
        for (int room : new int[] {1, 2, 12, 13, 23, 24}) {
            named("Promise 3, addAll: " + room + " clauses where there is room for " + room, () -> {
                MiddleClaims x = withRoom(room, letters(room));
                due("addAll()", x.addAll(), room);
                due("count(0)", x.count(0), 24);
                due("side of the last", x.clause(23, 0), room > 12 ? 1 : 0);
                due("signs of the last", x.clause(23, 1), 1 << (room - 1) % 6);
            });
            refused("Promise 3, addAll: " + (room + 1) + " clauses are FULL where there is room for " + room,
                () -> withRoom(room, letters(room + 1)), MiddleClaims::addAll, FULL);
        }
        refused("Promise 3, addAll: one clause is FULL where there is no room",
            () -> withRoom(0, "a"), MiddleClaims::addAll, FULL);
        refused("Promise 3, addAll: 30 clauses are FULL in a new object",
            () -> withRoom(24, letters(30)), MiddleClaims::addAll, FULL);
        refused("Promise 3, addAll: 30 clauses in 60 characters are FULL in a new object",
            () -> withRoom(24, letters(29) + ",ef"), MiddleClaims::addAll, FULL);
        refused("Promise 3, addAll: the fault is told ahead of FULL where there is no room",
            () -> withRoom(0, "a,b,"), MiddleClaims::addAll, -104);
        refused("Promise 3, addAll: the empty text is told ahead of FULL",
            () -> withRoom(0, ""), MiddleClaims::addAll, -100);
        refused("Promise 3, addAll: a fault behind 24 clauses is told ahead of FULL",
            () -> withRoom(24, letters(24) + ",g"), MiddleClaims::addAll, -148);
        refused("Promise 3, addAll: a fault behind 29 clauses is told ahead of FULL",
            () -> withRoom(24, letters(29) + ",-"), MiddleClaims::addAll, -159);
        refused("Promise 3, addAll: a fault behind 30 clauses is told ahead of FULL",
            () -> withRoom(3, letters(30) + "-"), MiddleClaims::addAll, -159);
        refused("Promise 3, addAll: that 60 characters end too early is told ahead of FULL",
            () -> withRoom(0, letters(30) + ","), MiddleClaims::addAll, -160);
    }

    private void addAllIsOneAct() {
        named("Promise 3, addAll: the text stays, and can be added again", () -> {
            MiddleClaims x = typed("a,-b/c");
            due("addAll()", x.addAll(), 3);
            due("count(10)", x.count(10), 6);
            due("addAll() again", x.addAll(), 3);
            dueClause(x, 4, 0, 1, 0);
            dueClause(x, 5, 0, 0, 2);
            dueClause(x, 6, 1, 4, 0);
            due("type(',')", x.type(','), 7);
            due("it goes on behind", x.addAll(), -107);
        });
        named("Promise 3, addAll: the clauses come behind those that there are, in their order", () -> {
            MiddleClaims x = typed("c,b/a");
            x.addAll();
            dueClause(x, 0, 1, 32, 0);
            dueClause(x, 1, 0, 4, 0);
            dueClause(x, 2, 0, 2, 0);
            dueClause(x, 3, 1, 1, 0);
        });
        named("Promise 3, addAll: this is one act, also for 24 clauses", () -> {
            MiddleClaims x = withRoom(24, letters(24));
            due("addAll()", x.addAll(), 24);
            due("count(9)", x.count(9), 1);
            due("undo()", x.undo(), 0);
            due("count(0)", x.count(0), 0);
            due("the text stays", x.count(10), 47);
        });
        named("Promise 3, addAll: this is one act, also for one clause", () -> {
            MiddleClaims x = typed("a");
            due("addAll()", x.addAll(), 1);
            due("count(9)", x.count(9), 2);
            due("undo()", x.undo(), 1);
            due("count(0)", x.count(0), 1);
        });
        named("Promise 3, addAll: what a faulty text began is not in the next reading", () -> {
            MiddleClaims x = new MiddleClaims();
            Checks.type(x, "a/bc-");
            due("addAll()", x.addAll(), -105);
            due("type('f')", x.type('f'), 6);
            due("addAll() of the whole", x.addAll(), 2);
            dueClause(x, 0, 0, 1, 0);
            dueClause(x, 1, 1, 6, 32);
        });
    }
}
