/**
 * Long runs of calls on the program and on the plain model, which must answer the same. The calls
 * come from a row of numbers that is the same each time. A run ends with the 512th call.
 */
public final class ModelRunsTest {
    private static final int RUNS = 600;
    private static final int CALLS = 512;
    /** How many of them are acts and looks by chance; with the others all is looked at in a row. */
    private static final int CALLS_BY_CHANCE = 300;
    private static final String[] TEXTS = {
        "a/-a", "a,-ab/-b", "ab,-a/-bc,-c", "abc,-abc,a-b,-a-bc/-cd,-c-d", "ab,a-b,-ab,-a-b",
        "abcdef", "abcdef,-a,-b,-c/-d,-e,-f", "a,b,c,d,e,f,a,b,c,d,e,f", "ad,-ae,bd,-be/-d,-ef,-e-f",
        "-ab,-bc,-cd,-de,-ef,a/-f", "", "a,", "a/b/c", "ba", "aa", "--a", "f-", "/a", "a-", "A", "a b",
        "a,b,c,d,e,f,a,b,c,d,e,f,a,b,c,d,e,f,a,b,c,d,e,f,a,b,c,d,e,f"};

    private final Checks checks = new Checks();
    private long seed = 20261118;
    private MiddleClaims x;
    private PlainModel model;
    private String told;
    private int calls;

    public static void main(String[] args) {
        ModelRunsTest test = new ModelRunsTest();
        for (int run = 0; run < RUNS; run++) {
            test.run(run);
        }
        test.checks.end();
    }

    private int next(int bound) {
        seed = seed * 6364136223846793005L + 1442695040888963407L;
        return (int) ((seed >>> 33) % bound);
    }

    /** Mostly 0 to bound - 1, now and then something beyond. */
    private int near(int bound) {
        switch (next(24)) {
            case 0: return -1;
            case 1: return bound;
            case 2: return new int[] {Integer.MIN_VALUE, Integer.MAX_VALUE, bound + 40}[next(3)];
            default: return next(Math.max(1, bound));
        }
    }

    private void due(String call, int got, int want) {
        calls++;
        checks.due(told + ", call " + calls + ": " + call, got, want);
    }

    private void run(int run) {
        x = new MiddleClaims();
        model = new PlainModel();
        int signs = 1 + next(6);
        int longest = 1 + next(signs);
        calls = 0;
        told = "run " + run;
        while (calls < CALLS_BY_CHANCE) {
            switch (next(4)) {
                case 0:
                    addSome(signs, longest);
                    break;
                case 1:
                    act();
                    break;
                default:
                    look();
            }
        }
        lookAtAll();
    }

    private void addSome(int signs, int longest) {
        int ones = 0;
        int opposites = 0;
        for (int i = 0; i < longest; i++) {
            int sign = 1 << next(signs);
            if (next(2) == 0) {
                ones |= sign & ~opposites;
            } else {
                opposites |= sign & ~ones;
            }
        }
        int side = next(2);
        due("add(" + side + ", " + ones + ", " + opposites + ")",
            x.add(side, ones, opposites), model.add(side, ones, opposites));
    }

    private void act() {
        int clause = near(model.count(0));
        switch (next(16)) {
            case 0:
                due("remove(" + clause + ")", x.remove(clause), model.remove(clause));
                break;
            case 1:
                due("move(" + clause + ")", x.move(clause), model.move(clause));
                break;
            case 2:
                due("exchange()", x.exchange(), model.exchange());
                break;
            case 3:
                due("shrink()", x.shrink(), model.shrink());
                break;
            case 4:
            case 5:
                due("undo()", x.undo(), model.undo());
                break;
            case 6:
                due("keep()", x.keep(), model.keep());
                break;
            case 7:
                due("restore()", x.restore(), model.restore());
                break;
            case 8:
            case 9:
                text(TEXTS[next(TEXTS.length)]);
                break;
            case 10:
                text(scribble());
                break;
            case 11:
                addWild();
                break;
            default:
                look();
        }
    }

    private void addWild() {
        int side = near(2);
        int ones = near(64);
        int opposites = near(64);
        due("add(" + side + ", " + ones + ", " + opposites + ")",
            x.add(side, ones, opposites), model.add(side, ones, opposites));
    }

    private String scribble() {
        StringBuilder all = new StringBuilder();
        int length = next(12);
        for (int i = 0; i < length; i++) {
            all.append("abcdef-,/abcdef-,ag".charAt(next(19)));
        }
        if (next(30) == 0) {
            all.append((char) (0x161 + 256 * next(200)));
        }
        return all.toString();
    }

    private void text(String characters) {
        if (next(8) != 0) {
            due("clearText()", x.clearText(), model.clearText());
        }
        for (char each : characters.toCharArray()) {
            due("type(" + each + ")", x.type(each), model.type(each));
        }
        due("addAll()", x.addAll(), model.addAll());
    }

    private void look() {
        int a = near(next(3) == 0 ? 400 : 30);
        int b = near(next(2) == 0 ? 2 : 6);
        int c = near(64);
        switch (next(8)) {
            case 0:
                due("clause(" + a + ", " + b + ")", x.clause(a, b), model.clause(a, b));
                break;
            case 1:
                due("side(" + b + ", " + c % 5 + ")", x.side(b, c % 5), model.side(b, c % 5));
                break;
            case 2:
                due("step(" + a + ", " + b + ")", x.step(a, b), model.step(a, b));
                break;
            case 3:
                due("partial(" + a + ", " + b + ", " + c + ")", x.partial(a, b, c), model.partial(a, b, c));
                break;
            case 4:
                due("middle(" + b + ", " + c % 3 + ")", x.middle(b, c % 3), model.middle(b, c % 3));
                break;
            case 5:
                due("outermost(" + (a % 2 == 0) + ", " + b + ")",
                    x.outermost(a % 2 == 0, b), model.outermost(a % 2 == 0, b));
                break;
            case 6:
                lookAtClaims();
                break;
            default:
                int what = near(11);
                due("count(" + what + ")", x.count(what), model.count(what));
        }
    }

    private void lookAtClaims() {
        due("compare()", x.compare(), model.compare());
        int low = new int[] {0, -1, model.middle(0, 0), model.middle(1, 0), model.outermost(true, 0)}[next(5)];
        int high = new int[] {0, -1, model.middle(0, 1), model.middle(1, 1), model.outermost(true, 1)}[next(5)];
        if (next(4) == 0) {
            low ^= 1 << next(32);
        }
        due("test(" + low + ", " + high + ")", x.test(low, high), model.test(low, high));
    }

    private void lookAtAll() {
        for (int what = -1; what <= 11; what++) {
            due("count(" + what + ")", x.count(what), model.count(what));
        }
        for (int half = 0; half < 2; half++) {
            due("middle(0, " + half + ")", x.middle(0, half), model.middle(0, half));
            due("middle(1, " + half + ")", x.middle(1, half), model.middle(1, half));
            due("outermost(false, " + half + ")", x.outermost(false, half), model.outermost(false, half));
            due("outermost(true, " + half + ")", x.outermost(true, half), model.outermost(true, half));
        }
        due("compare()", x.compare(), model.compare());
        int steps = Math.min(400, model.count(3)) + 1;
        // From another step in each run on, so that all steps come up in one run or another.
        for (int from = next(steps), at = 0; at < steps && calls < CALLS - 6; at++) {
            int step = (from + at) % steps;
            for (int what = 0; what < 6; what++) {
                due("step(" + step + ", " + what + ")", x.step(step, what), model.step(step, what));
            }
        }
        for (int clause = next(8); clause < 25 && calls < CALLS - 5; clause++) {
            for (int what = 0; what < 5; what++) {
                due("clause(" + clause + ", " + what + ")", x.clause(clause, what), model.clause(clause, what));
            }
        }
        while (calls < CALLS) {
            due("undo()", x.undo(), model.undo());
        }
    }
}
