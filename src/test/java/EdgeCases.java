import java.util.HashSet;
import java.util.Set;
import java.util.function.Supplier;
import java.util.function.ToIntFunction;

/**
 * What the tests of boundary cases share. Each case is named after the promise (or the term) and what
 * it looks at; the name is told ahead of each answer that is not as due.
 */
abstract class EdgeCases {
    static final int MIN = Integer.MIN_VALUE;
    static final int MAX = Integer.MAX_VALUE;
    static final int UNKNOWN = -1;
    static final int BAD_VALUE = -2;
    static final int FULL = -3;
    static final int NOT_POSSIBLE = -4;
    static final int NONE = -5;
    /** The worlds in which the signs a to f are true. */
    static final long[] SIGN = new long[6];

    static {
        for (int world = 0; world < 64; world++) {
            for (int sign = 0; sign < 6; sign++) {
                SIGN[sign] |= (long) ((world >> sign) & 1) << world;
            }
        }
    }

    static final long A = SIGN[0];
    static final long B = SIGN[1];
    static final long C = SIGN[2];
    static final long D = SIGN[3];
    static final long E = SIGN[4];
    static final long F = SIGN[5];
    static final long TRUE = -1L;
    static final long FALSE = 0L;

    private final Checks checks = new Checks();
    private final Set<String> names = new HashSet<>();
    private String name = "";

    /** Looks at one case. */
    void named(String newName, Runnable looks) {
        name = newName;
        due("a case with a name of its own", names.add(newName) ? 1 : 0, 1);
        looks.run();
    }

    /** Looks at a call that is refused (or answers NONE): at its answer, and that nothing has changed. */
    void refused(String newName, Supplier<MiddleClaims> made, ToIntFunction<MiddleClaims> call, int want) {
        named(newName, () -> {
            due("the call", call.applyAsInt(made.get()), want);
            dueUnchanged(made, call);
        });
    }

    /** An object with the call must tell the same as one without it. */
    void dueUnchanged(Supplier<MiddleClaims> made, ToIntFunction<MiddleClaims> call) {
        for (Looks.Part part : Looks.PARTS) {
            MiddleClaims with = made.get();
            call.applyAsInt(with);
            String got = part.look().apply(with);
            String want = part.look().apply(made.get());
            if (!got.equals(want)) {
                System.out.println("after the call: " + got + "\nwithout it:     " + want);
            }
            due(part.name() + " are as before (1)", got.equals(want) ? 1 : 0, 1);
        }
    }

    void due(String call, long got, long want) {
        checks.due(name + ": " + call, got, want);
    }

    /** The nearest numbers that are not from 0 to bound - 1, and the farthest. */
    static int[] beyond(int bound) {
        return new int[] {-1, bound, MIN, MAX};
    }

    void dueClause(MiddleClaims x, int clause, int side, int signs, int opposites) {
        due("clause(" + clause + ", 0)", x.clause(clause, 0), side);
        due("clause(" + clause + ", 1)", x.clause(clause, 1), signs);
        due("clause(" + clause + ", 2)", x.clause(clause, 2), opposites);
    }

    /** The signs as they are and those whose opposites are in it, both parents, the pivot, needed or not. */
    void dueStep(MiddleClaims x, int step, int... wants) {
        for (int what = 0; what < wants.length; what++) {
            due("step(" + step + ", " + what + ")", x.step(step, what), wants[what]);
        }
    }

    void duePartial(MiddleClaims x, int step, int manner, long claim) {
        for (int world = 0; world < 64; world++) {
            due("partial(" + step + ", " + manner + ", " + world + ")",
                x.partial(step, manner, world), (claim >>> world) & 1L);
        }
    }

    void dueMiddle(MiddleClaims x, int manner, long claim) {
        due("middle(" + manner + ", 0)", x.middle(manner, 0), (int) claim);
        due("middle(" + manner + ", 1)", x.middle(manner, 1), (int) (claim >>> 32));
        due("count(" + (6 + manner) + ")", x.count(6 + manner), Long.bitCount(claim));
    }

    void dueOutermost(MiddleClaims x, boolean weakest, long claim) {
        due("outermost(" + weakest + ", 0)", x.outermost(weakest, 0), (int) claim);
        due("outermost(" + weakest + ", 1)", x.outermost(weakest, 1), (int) (claim >>> 32));
    }

    static int test(MiddleClaims x, long claim) {
        return x.test((int) claim, (int) (claim >>> 32));
    }

    void end() {
        System.out.println(names.size() + " cases");
        checks.end();
    }
}
