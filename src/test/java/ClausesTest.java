/** Promises 1 to 7: a new object, and the acts that change clauses. */
public final class ClausesTest {
    private static final Checks CHECKS = new Checks();

    private static void due(String call, long got, long want) {
        CHECKS.due(call, got, want);
    }

    public static void main(String[] args) {
        newObject();
        addGoesOnInOrder();
        addRefuses();
        addAllAddsInOrder();
        addAllTellsFaults();
        addAllReadsAnew();
        addAllIsAllOrNone();
        removeClosesTheGap();
        moveKeepsTheNumber();
        exchangeSwapsAll();
        shrinkLeavesWhatIsNeeded();
        shrinkRefuses();
        CHECKS.end();
    }

    private static void dueClause(MiddleClaims x, int clause, int side, int signs, int opposites) {
        due("clause(" + clause + ", 0)", x.clause(clause, 0), side);
        due("clause(" + clause + ", 1)", x.clause(clause, 1), signs);
        due("clause(" + clause + ", 2)", x.clause(clause, 2), opposites);
    }

    private static MiddleClaims full() {
        MiddleClaims x = new MiddleClaims();
        for (int clause = 0; clause < 24; clause++) {
            due("add, as clause " + clause, x.add(clause % 2, 1 + clause, 32), clause);
        }
        return x;
    }

    private static void newObject() {
        int[] wants = {0, 0, 0, 0, 0, 0, -5, -5, 64, 0, 0};
        MiddleClaims x = new MiddleClaims();
        for (int what = 0; what < wants.length; what++) {
            due("new: count(" + what + ")", x.count(what), wants[what]);
        }
        for (int side = 0; side < 2; side++) {
            due("new: side(" + side + ", 0)", x.side(side, 0), 0);
            due("new: side(" + side + ", 1)", x.side(side, 1), 0);
            due("new: side(" + side + ", 2)", x.side(side, 2), 64);
            due("new: side(" + side + ", 3)", x.side(side, 3), 0);
        }
        due("new: clause(0, 0)", x.clause(0, 0), -1);
        due("new: step(0, 0)", x.step(0, 0), -1);
        due("new: undo()", x.undo(), -5);
        due("new: restore()", x.restore(), -5);
        due("new: exchange()", x.exchange(), -5);
        due("new: shrink()", x.shrink(), -4);
        due("new: clearText()", x.clearText(), 0);
    }

    private static void addGoesOnInOrder() {
        MiddleClaims x = new MiddleClaims();
        due("add(1, 3, 4)", x.add(1, 3, 4), 0);
        due("add(0, 0, 63)", x.add(0, 0, 63), 1);
        due("add(0, 63, 0)", x.add(0, 63, 0), 2);
        due("the same again", x.add(1, 3, 4), 3);
        dueClause(x, 0, 1, 3, 4);
        dueClause(x, 1, 0, 0, 63);
        dueClause(x, 2, 0, 63, 0);
        dueClause(x, 3, 1, 3, 4);
        due("one state for each act", x.count(9), 4);
    }

    private static void addRefuses() {
        MiddleClaims x = new MiddleClaims();
        due("add(-1, 1, 0)", x.add(-1, 1, 0), -1);
        due("add(2, 1, 0)", x.add(2, 1, 0), -1);
        due("the side first", x.add(2, 64, 64), -1);
        due("add(0, -1, 0)", x.add(0, -1, 0), -2);
        due("add(0, 64, 0)", x.add(0, 64, 0), -2);
        due("add(0, 1, -1)", x.add(0, 1, -1), -2);
        due("add(0, 1, 64)", x.add(0, 1, 64), -2);
        due("add(0, 0, 0)", x.add(0, 0, 0), -2);
        due("add(1, 5, 6)", x.add(1, 5, 6), -2);
        due("add(0, MIN, 1)", x.add(0, Integer.MIN_VALUE, 1), -2);
        due("add(0, 1, MAX)", x.add(0, 1, Integer.MAX_VALUE), -2);
        due("nothing is changed", x.count(0) + x.count(9), 0);
        x = full();
        due("the 25th", x.add(0, 1, 0), -3);
        due("the 25th of no side", x.add(2, 1, 0), -1);
        due("the 25th that is none", x.add(0, 0, 0), -2);
        due("still 24", x.count(0), 24);
        due("after one is removed", x.remove(5), 23);
        due("there is room", x.add(0, 1, 0), 23);
    }

    private static void addAllAddsInOrder() {
        MiddleClaims x = new MiddleClaims();
        x.add(1, 8, 0);
        Checks.type(x, "a-bc,-f/d,-a-b-c-d-e-f,abcdef");
        due("addAll()", x.addAll(), 5);
        dueClause(x, 0, 1, 8, 0);
        dueClause(x, 1, 0, 5, 2);
        dueClause(x, 2, 0, 0, 32);
        dueClause(x, 3, 1, 8, 0);
        dueClause(x, 4, 1, 0, 63);
        dueClause(x, 5, 1, 63, 0);
        due("one act", x.count(9), 2);
        due("the text stays", x.count(10), 29);
        due("it can be added again", x.addAll(), 5);
        due("the clauses then", x.count(0), 11);
        dueClause(x, 6, 0, 5, 2);
        due("undo() of the act", x.undo(), 2);
        due("takes all of them", x.count(0), 6);
        x = Checks.with("a,b");
        due("without a / all are of the side 0", x.side(0, 0), 2);
    }

    private static void dueFault(String characters, int fault) {
        MiddleClaims x = new MiddleClaims();
        x.add(0, 1, 0);
        Checks.type(x, characters);
        due("addAll() of \"" + characters + "\"", x.addAll(), -100 - fault);
        due("the clauses after it", x.count(0), 1);
        due("the history after it", x.count(9), 1);
        due("the text after it", x.count(10), characters.length());
    }

    private static void addAllTellsFaults() {
        dueFault("", 0);
        dueFault(",a", 0);
        dueFault("/a", 0);
        dueFault("g", 0);
        dueFault("A", 0);
        dueFault(" a", 0);
        dueFault("`", 0);
        dueFault("" + (char) 0, 0);
        dueFault("" + (char) 0x161, 0);
        dueFault("" + (char) 0xFFFF, 0);
        dueFault("a" + (char) 0x12C, 1);
        dueFault("-", 1);
        dueFault("--a", 1);
        dueFault("-,", 1);
        dueFault("-/", 1);
        dueFault("-g", 1);
        dueFault("aa", 1);
        dueFault("a-a", 2);
        dueFault("ba", 1);
        dueFault("b-a", 2);
        dueFault("b-", 2);
        dueFault("f-", 1);
        dueFault("ff", 1);
        dueFault("-f-", 2);
        dueFault("e-e", 2);
        dueFault("e-", 2);
        dueFault("e--", 2);
        dueFault("a,", 2);
        dueFault("a,,b", 2);
        dueFault("a/", 2);
        dueFault("a/,b", 2);
        dueFault("a,/b", 2);
        dueFault("a//b", 2);
        dueFault("a/b/c", 3);
        dueFault("a/b,c/d", 5);
        dueFault("a/b,", 4);
        dueFault("a/-", 3);
        dueFault("abcdefa", 6);
        dueFault("a b", 1);
        dueFault("-a,-b/-c,-d,x", 12);
        String longest = "abcdef,abcdef,abcdef,abcdef,abcdef,abcdef,abcdef,abcdef,abcd";
        dueFault(longest.substring(0, 56), 56);
        MiddleClaims x = Checks.with(longest + "ef");
        due("of 60 characters", x.count(0), 9);
        dueClause(x, 8, 0, 15, 0);
    }

    /** What a faulty text left open is nothing to the next reading. */
    private static void addAllReadsAnew() {
        MiddleClaims x = new MiddleClaims();
        x.type('-');
        due("addAll() of \"-\"", x.addAll(), -101);
        x.type('b');
        due("addAll() of \"-b\"", x.addAll(), 1);
        dueClause(x, 0, 0, 0, 2);
        Checks.type(x, "c/-");
        due("addAll() of \"-bc/-\"", x.addAll(), -105);
        x.clearText();
        Checks.type(x, "a/b-");
        due("addAll() of \"a/b-\"", x.addAll(), -104);
        x.clearText();
        Checks.type(x, "a");
        due("addAll() of \"a\"", x.addAll(), 1);
        dueClause(x, 1, 0, 1, 0);
        due("the clauses", x.count(0), 2);
    }

    private static void addAllIsAllOrNone() {
        MiddleClaims x = new MiddleClaims();
        String twelve = "a,b,c,d,e,f/a,b,c,d,e,f";
        Checks.type(x, twelve + "," + twelve.replace('/', ','));
        due("24 at once", x.addAll(), 24);
        due("24 more", x.addAll(), -3);
        due("the clauses then", x.count(0), 24);
        due("the history then", x.count(9), 1);
        x.type(',');
        due("a fault is told ahead of it", x.addAll(), -148);
        x.type('a');
        due("25 into none", new25(), -3);
        x.remove(0);
        x.clearText();
        Checks.type(x, "a,b");
        due("2 into the room for 1", x.addAll(), -3);
        due("none of them is added", x.count(0), 23);
        x.clearText();
        Checks.type(x, "a");
        due("1 into the room for 1", x.addAll(), 1);
    }

    private static int new25() {
        MiddleClaims x = new MiddleClaims();
        Checks.type(x, "a,a,a,a,a,a,a,a,a,a,a,a,a,a,a,a,a,a,a,a,a,a,a,a,a");
        int answer = x.addAll();
        Checks.type(x, ",a,a,a,a,a");
        due("30 into none", x.addAll(), -3);
        due("30 leave none", x.count(0) + x.count(9), 0);
        return answer;
    }

    private static void removeClosesTheGap() {
        MiddleClaims x = Checks.with("a,b,-c/-d,e");
        due("remove(5)", x.remove(5), -1);
        due("remove(-1)", x.remove(-1), -1);
        due("remove(MIN)", x.remove(Integer.MIN_VALUE), -1);
        due("remove(MAX)", x.remove(Integer.MAX_VALUE), -1);
        due("no act", x.count(9), 1);
        due("remove(1)", x.remove(1), 4);
        dueClause(x, 0, 0, 1, 0);
        dueClause(x, 1, 0, 0, 4);
        dueClause(x, 2, 1, 0, 8);
        dueClause(x, 3, 1, 16, 0);
        due("remove of the last", x.remove(3), 3);
        due("remove of the first", x.remove(0), 2);
        dueClause(x, 0, 0, 0, 4);
        dueClause(x, 1, 1, 0, 8);
        due("each is an act", x.count(9), 4);
        due("remove(0)", x.remove(0), 1);
        due("remove(0)", x.remove(0), 0);
        due("remove(0) of none", x.remove(0), -1);
        x = full();
        due("remove(0) of 24", x.remove(0), 23);
        dueClause(x, 22, 1, 24, 32);
    }

    private static void moveKeepsTheNumber() {
        MiddleClaims x = Checks.with("a,bc/-d");
        due("move(3)", x.move(3), -1);
        due("move(-1)", x.move(-1), -1);
        due("no act", x.count(9), 1);
        due("move(1)", x.move(1), 1);
        dueClause(x, 0, 0, 1, 0);
        dueClause(x, 1, 1, 6, 0);
        dueClause(x, 2, 1, 0, 8);
        due("move(1) back", x.move(1), 0);
        due("each is an act", x.count(9), 3);
        dueClause(x, 1, 0, 6, 0);
    }

    private static void exchangeSwapsAll() {
        MiddleClaims x = Checks.with("a,b,c/d");
        due("exchange()", x.exchange(), 1);
        dueClause(x, 0, 1, 1, 0);
        dueClause(x, 1, 1, 2, 0);
        dueClause(x, 2, 1, 4, 0);
        dueClause(x, 3, 0, 8, 0);
        due("exchange() back", x.exchange(), 3);
        due("each is an act", x.count(9), 3);
        x = new MiddleClaims();
        due("exchange() of none", x.exchange(), -5);
        due("no act", x.count(9), 0);
        x.add(0, 1, 0);
        due("all to the side 1", x.exchange(), 0);
        // The claim of the clashing sides turns with them.
        x = Checks.with("a/-a");
        due("middle(0, 0)", x.middle(0, 0), 0xAAAAAAAA);
        x.exchange();
        due("middle(0, 0) after exchange()", x.middle(0, 0), 0x55555555);
    }

    private static void shrinkLeavesWhatIsNeeded() {
        // c is of no use, the second a is not the one that is resolved with -a.
        MiddleClaims x = Checks.with("c,a,a/-e,-a,d");
        due("shrink()", x.shrink(), 2);
        dueClause(x, 0, 0, 1, 0);
        dueClause(x, 1, 1, 0, 1);
        due("an act", x.count(9), 2);
        due("shrink() again", x.shrink(), -5);
        due("no act", x.count(9), 2);
        due("the steps then", x.count(3), 3);
        due("undo()", x.undo(), 1);
        due("the clauses are there again", x.count(0), 6);
        dueClause(x, 5, 1, 8, 0);
        due("the steps are there again", x.count(3), 7);
        // -ab with a gives b; with -b that ends it: all are needed.
        x = Checks.with("-ab,a/-b");
        due("all are needed", x.shrink(), -5);
    }

    private static void shrinkRefuses() {
        MiddleClaims x = Checks.with("a,b/-c");
        due("shrink() without a clash", x.shrink(), -4);
        due("no act", x.count(9), 1);
        due("the clauses stay", x.count(0), 3);
        x = Checks.of(ProofRows.EMPTY_CLAUSE_WOULD_BE_401ST);
        due("shrink() without a known proof", x.shrink(), -4);
        due("they clash", x.count(2), 1);
    }
}
