/** The boundary cases of the promises 1, 2 and 4 to 7, and of what is said of CLAUSES. */
public final class EdgesOfClausesTest extends EdgeCases {
    public static void main(String[] args) {
        EdgesOfClausesTest test = new EdgesOfClausesTest();
        test.newObject();
        test.addRefuses();
        test.addTakes();
        test.addHasRoomFor24();
        test.remove();
        test.move();
        test.exchange();
        test.shrinkRefuses();
        test.shrinkRemoves();
        test.knownSigns();
        test.worlds();
        test.end();
    }

    private void newObject() {
        named("Promise 1, a new object: both sides are without clauses", () -> {
            MiddleClaims x = new MiddleClaims();
            due("count(0)", x.count(0), 0);
            due("side(0, 0)", x.side(0, 0), 0);
            due("side(1, 0)", x.side(1, 0), 0);
            due("clause(0, 0)", x.clause(0, 0), UNKNOWN);
        });
        named("Promise 1, a new object: no sign is known", () -> {
            MiddleClaims x = new MiddleClaims();
            due("side(0, 1)", x.side(0, 1), 0);
            due("side(1, 1)", x.side(1, 1), 0);
            due("count(1)", x.count(1), 0);
        });
        named("Promise 1, a new object: without clauses all are true in all worlds, no clash", () -> {
            MiddleClaims x = new MiddleClaims();
            for (int side = 0; side < 2; side++) {
                due("side(" + side + ", 2)", x.side(side, 2), 64);
                due("side(" + side + ", 3)", x.side(side, 3), 0);
            }
            due("count(8)", x.count(8), 64);
            due("count(2)", x.count(2), 0);
            dueOutermost(x, false, 0);
            dueOutermost(x, true, 0);
        });
        named("Promise 1, a new object: the proof is known and has no step", () -> {
            MiddleClaims x = new MiddleClaims();
            due("count(3)", x.count(3), 0);
            due("count(4)", x.count(4), 0);
            due("count(5)", x.count(5), 0);
            due("count(6)", x.count(6), NONE);
            due("count(7)", x.count(7), NONE);
            due("step(0, 0)", x.step(0, 0), UNKNOWN);
            due("partial(0, 0, 0)", x.partial(0, 0, 0), NOT_POSSIBLE);
            due("compare()", x.compare(), NOT_POSSIBLE);
        });
        named("Promise 1, a new object: no text, no history, no snapshot", () -> {
            MiddleClaims x = new MiddleClaims();
            due("count(9)", x.count(9), 0);
            due("count(10)", x.count(10), 0);
            due("undo()", x.undo(), NONE);
            due("restore()", x.restore(), NONE);
            due("clearText()", x.clearText(), 0);
        });
    }

    private void addRefuses() {
        for (int side : beyond(2)) {
            refused("Promise 2, add: the side " + side + " is UNKNOWN",
                Setups::clashing, x -> x.add(side, 1, 0), UNKNOWN);
        }
        for (int set : new int[] {-1, 64, 65, 127, 128, -64, MIN, MIN + 1, MAX}) {
            refused("Promise 2, add: the signs " + set + " are BAD_VALUE",
                Setups::clashing, x -> x.add(0, set, 0), BAD_VALUE);
            refused("Promise 2, add: the signs " + set + " with an opposite are BAD_VALUE",
                Setups::clashing, x -> x.add(1, set, 2), BAD_VALUE);
            refused("Promise 2, add: the opposites " + set + " are BAD_VALUE",
                Setups::clashing, x -> x.add(0, 0, set), BAD_VALUE);
            refused("Promise 2, add: the opposites " + set + " with a sign are BAD_VALUE",
                Setups::clashing, x -> x.add(1, 2, set), BAD_VALUE);
        }
        for (int side = 0; side < 2; side++) {
            int one = side;
            refused("Promise 2, add: no literal on the side " + side + " is BAD_VALUE",
                Setups::clashing, x -> x.add(one, 0, 0), BAD_VALUE);
        }
        for (int sign = 0; sign < 6; sign++) {
            int one = 1 << sign;
            refused("Promise 2, add: the sign " + sign + " and its opposite are BAD_VALUE",
                Setups::clashing, x -> x.add(0, one, one), BAD_VALUE);
            refused("Promise 2, add: the sign " + sign + " in common among others is BAD_VALUE",
                Setups::clashing, x -> x.add(0, 63, one), BAD_VALUE);
        }
        refused("Promise 2, add: all signs in common are BAD_VALUE",
            Setups::clashing, x -> x.add(1, 63, 63), BAD_VALUE);
    }

    private void addTakes() {
        for (int side = 0; side < 2; side++) {
            int one = side;
            named("Promise 2, add: the side " + side + " gets the clause", () -> {
                MiddleClaims x = new MiddleClaims();
                due("add", x.add(one, 4, 8), 0);
                dueClause(x, 0, one, 4, 8);
                due("its clauses", x.side(one, 0), 1);
                due("those of the other side", x.side(1 - one, 0), 0);
            });
        }
        for (int sign = 0; sign < 6; sign++) {
            int one = 1 << sign;
            named("CLAUSES: a clause of one literal, the sign " + sign, () -> {
                MiddleClaims x = new MiddleClaims();
                due("add of the sign", x.add(0, one, 0), 0);
                due("add of its opposite", x.add(0, 0, one), 1);
                dueClause(x, 0, 0, one, 0);
                dueClause(x, 1, 0, 0, one);
            });
            named("CLAUSES: six literals, the sign " + sign + " against the others", () -> {
                MiddleClaims x = new MiddleClaims();
                due("add", x.add(1, one, 63 ^ one), 0);
                due("add the other way round", x.add(1, 63 ^ one, one), 1);
                dueClause(x, 0, 1, one, 63 ^ one);
                dueClause(x, 1, 1, 63 ^ one, one);
            });
        }
        named("Promise 2, add: the least set of signs is 0, the greatest 63", () -> {
            MiddleClaims x = new MiddleClaims();
            due("add(0, 0, 63)", x.add(0, 0, 63), 0);
            due("add(0, 63, 0)", x.add(0, 63, 0), 1);
            dueClause(x, 0, 0, 0, 63);
            dueClause(x, 1, 0, 63, 0);
        });
        named("CLAUSES: the same clause more than once, on one side and on both", () -> {
            MiddleClaims x = new MiddleClaims();
            due("add", x.add(0, 5, 2), 0);
            due("again", x.add(0, 5, 2), 1);
            due("on the other side", x.add(1, 5, 2), 2);
            due("and again", x.add(1, 5, 2), 3);
            due("count(0)", x.count(0), 4);
            due("steps", x.count(3), 4);
            dueClause(x, 1, 0, 5, 2);
            dueClause(x, 3, 1, 5, 2);
        });
        named("Promise 2, add: this is an act", () -> {
            MiddleClaims x = Setups.clashing();
            due("the history", x.count(9), 3);
            due("add", x.add(1, 32, 0), 5);
            due("the history then", x.count(9), 4);
            due("undo()", x.undo(), 3);
            due("the clauses", x.count(0), 5);
        });
    }

    private void addHasRoomFor24() {
        named("Promise 2, add: the clauses have the numbers 0 to 23 as they came", () -> {
            MiddleClaims x = new MiddleClaims();
            for (int clause = 0; clause < 24; clause++) {
                due("add", x.add(clause / 5 % 2, clause + 1, 32), clause);
            }
            due("count(0)", x.count(0), 24);
            for (int clause = 0; clause < 24; clause++) {
                dueClause(x, clause, clause / 5 % 2, clause + 1, 32);
            }
        });
        refused("Promise 2, add: the 25th to the side 0 is FULL", Setups::full, x -> x.add(0, 1, 0), FULL);
        refused("Promise 2, add: the 25th to the side 1 is FULL", Setups::full, x -> x.add(1, 0, 63), FULL);
        refused("Promise 2, add: the 25th is FULL, though there is room for states and characters",
            Setups::noRoom, x -> x.add(0, 1, 2), FULL);
        refused("Promise 2, add: the 25th is FULL also if it is there already",
            Setups::full, x -> x.add(0, x.clause(2, 1), x.clause(2, 2)), FULL);
        named("Promise 2, add: the room is for both sides together", () -> {
            MiddleClaims x = new MiddleClaims();
            for (int clause = 0; clause < 24; clause++) {
                due("add", x.add(0, 1, 0), clause);
            }
            due("the first of the side 1", x.add(1, 1, 0), FULL);
        });
        named("Promise 2, add: one removed, one more", () -> {
            MiddleClaims x = Setups.full();
            due("remove(0)", x.remove(0), 23);
            due("add", x.add(1, 7, 8), 23);
            dueClause(x, 23, 1, 7, 8);
            due("one more", x.add(1, 7, 8), FULL);
        });
    }

    private void remove() {
        for (int clause : beyond(5)) {
            refused("Promise 4, remove: of 5 clauses " + clause + " is UNKNOWN",
                Setups::clashing, x -> x.remove(clause), UNKNOWN);
        }
        refused("Promise 4, remove: of 24 clauses 24 is UNKNOWN", Setups::full, x -> x.remove(24), UNKNOWN);
        refused("Promise 4, remove: without clauses 0 is UNKNOWN", Setups::emptied, x -> x.remove(0), UNKNOWN);
        named("Promise 4, remove: the first one, all others have numbers that are 1 less", () -> {
            MiddleClaims x = Checks.with("a,-b/cd,e");
            due("remove(0)", x.remove(0), 3);
            dueClause(x, 0, 0, 0, 2);
            dueClause(x, 1, 1, 12, 0);
            dueClause(x, 2, 1, 16, 0);
            due("clause(3, 0)", x.clause(3, 0), UNKNOWN);
        });
        named("Promise 4, remove: one in the middle, those ahead keep their numbers", () -> {
            MiddleClaims x = Checks.with("a,-b/cd,e");
            due("remove(1)", x.remove(1), 3);
            dueClause(x, 0, 0, 1, 0);
            dueClause(x, 1, 1, 12, 0);
            dueClause(x, 2, 1, 16, 0);
        });
        named("Promise 4, remove: the last one, all others keep their numbers", () -> {
            MiddleClaims x = Checks.with("a,-b/cd,e");
            due("remove(3)", x.remove(3), 3);
            dueClause(x, 0, 0, 1, 0);
            dueClause(x, 1, 0, 0, 2);
            dueClause(x, 2, 1, 12, 0);
            due("it is not there", x.remove(3), UNKNOWN);
        });
        named("Promise 4, remove: the only one", () -> {
            MiddleClaims x = Checks.with("a");
            due("remove(0)", x.remove(0), 0);
            due("remove(0) again", x.remove(0), UNKNOWN);
            due("side(0, 1)", x.side(0, 1), 0);
        });
        named("Promise 4, remove: the first and the last of 24", () -> {
            MiddleClaims x = Setups.full();
            int signs = x.clause(22, 1);
            due("remove(23)", x.remove(23), 23);
            due("clause(22, 1)", x.clause(22, 1), signs);
            due("remove(0)", x.remove(0), 22);
            due("clause(21, 1)", x.clause(21, 1), signs);
            due("clause(22, 1)", x.clause(22, 1), UNKNOWN);
        });
        named("Promise 4, remove: this is an act", () -> {
            MiddleClaims x = Checks.with("a,-b/cd,e");
            x.remove(2);
            due("the history", x.count(9), 2);
            due("undo()", x.undo(), 1);
            dueClause(x, 2, 1, 12, 0);
            dueClause(x, 3, 1, 16, 0);
        });
    }

    private void move() {
        for (int clause : beyond(5)) {
            refused("Promise 5, move: of 5 clauses " + clause + " is UNKNOWN",
                Setups::clashing, x -> x.move(clause), UNKNOWN);
        }
        refused("Promise 5, move: of 24 clauses 24 is UNKNOWN", Setups::full, x -> x.move(24), UNKNOWN);
        refused("Promise 5, move: without clauses 0 is UNKNOWN", Setups::emptied, x -> x.move(0), UNKNOWN);
        for (int clause : new int[] {0, 1, 4}) {
            named("Promise 5, move: " + clause + " of 5 to the other side and back, its number stays", () -> {
                MiddleClaims x = Checks.with("a,-b,ab/cd,-e-f");
                int[][] rows = {{0, 1, 0}, {0, 0, 2}, {0, 3, 0}, {1, 12, 0}, {1, 0, 48}};
                int side = rows[clause][0];
                due("move", x.move(clause), 1 - side);
                for (int each = 0; each < 5; each++) {
                    int now = each == clause ? 1 - side : rows[each][0];
                    dueClause(x, each, now, rows[each][1], rows[each][2]);
                }
                due("clauses of the side 0", x.side(0, 0), clause == 4 ? 4 : 2);
                due("move back", x.move(clause), side);
                due("clauses of the side 0", x.side(0, 0), 3);
            });
        }
        named("Promise 5, move: also to a side that has 23 of 24", () -> {
            MiddleClaims x = new MiddleClaims();
            for (int clause = 0; clause < 24; clause++) {
                x.add(clause == 23 ? 1 : 0, 1, 0);
            }
            due("move(23)", x.move(23), 0);
            due("side(0, 0)", x.side(0, 0), 24);
            due("side(1, 0)", x.side(1, 0), 0);
        });
        named("Promise 5, move: each is an act", () -> {
            MiddleClaims x = Checks.with("a/b");
            x.move(1);
            x.move(1);
            due("the history", x.count(9), 3);
            due("undo()", x.undo(), 2);
            due("clause(1, 0)", x.clause(1, 0), 0);
            due("undo()", x.undo(), 1);
            due("clause(1, 0)", x.clause(1, 0), 1);
        });
    }

    private void exchange() {
        refused("Promise 6, exchange: NONE in a new object", Setups::fresh, MiddleClaims::exchange, NONE);
        refused("Promise 6, exchange: NONE if all are removed", Setups::emptied, MiddleClaims::exchange, NONE);
        named("Promise 6, exchange: one clause", () -> {
            MiddleClaims x = Checks.with("a");
            due("to the side 1", x.exchange(), 0);
            due("clause(0, 0)", x.clause(0, 0), 1);
            due("to the side 0", x.exchange(), 1);
            due("clause(0, 0)", x.clause(0, 0), 0);
        });
        named("Promise 6, exchange: 24 clauses, in their order", () -> {
            MiddleClaims x = new MiddleClaims();
            for (int clause = 0; clause < 24; clause++) {
                x.add(clause < 17 ? 0 : 1, 1 + clause, 32);
            }
            due("exchange()", x.exchange(), 7);
            for (int clause = 0; clause < 24; clause++) {
                dueClause(x, clause, clause < 17 ? 1 : 0, 1 + clause, 32);
            }
        });
        named("Promise 6, exchange: this is one act", () -> {
            MiddleClaims x = Checks.with("a,b/c");
            due("exchange()", x.exchange(), 1);
            due("the history", x.count(9), 2);
            due("undo()", x.undo(), 1);
            dueClause(x, 0, 0, 1, 0);
            dueClause(x, 2, 1, 4, 0);
        });
    }

    private void shrinkRefuses() {
        refused("Promise 7, shrink: NOT_POSSIBLE without a clash", Setups::open,
            MiddleClaims::shrink, NOT_POSSIBLE);
        refused("Promise 7, shrink: NOT_POSSIBLE without clauses", Setups::emptied,
            MiddleClaims::shrink, NOT_POSSIBLE);
        refused("Promise 7, shrink: NOT_POSSIBLE if the proof is not known, though they clash",
            Setups::unknown, MiddleClaims::shrink, NOT_POSSIBLE);
        refused("Promise 7, shrink: NONE if both clauses are needed", Setups::allNeeded,
            MiddleClaims::shrink, NONE);
        refused("Promise 7, shrink: NONE if all 24 are needed",
            () -> Checks.of(ProofRows.ALL_24_ARE_NEEDED), MiddleClaims::shrink, NONE);
    }

    private void shrinkRemoves() {
        named("Promise 7, shrink: the clauses left keep their sides and their order", () -> {
            MiddleClaims x = Setups.clashing();
            due("shrink()", x.shrink(), 3);
            dueClause(x, 0, 1, 3, 0);
            dueClause(x, 1, 1, 0, 2);
            dueClause(x, 2, 0, 0, 1);
            due("count(0)", x.count(0), 3);
            due("all are needed then", x.shrink(), NONE);
        });
        named("Promise 7, shrink: the first and the last one go, if they are not needed", () -> {
            MiddleClaims x = Checks.with("c,a/d,-a,e");
            due("shrink()", x.shrink(), 2);
            dueClause(x, 0, 0, 1, 0);
            dueClause(x, 1, 1, 0, 1);
            x = Checks.with("c,d,e/b,a,-a");
            due("shrink() of all ahead", x.shrink(), 2);
            dueClause(x, 0, 1, 1, 0);
            dueClause(x, 1, 1, 0, 1);
        });
        named("Promise 7, shrink: of the same clauses only the one that is a parent is left", () -> {
            MiddleClaims x = Checks.with("-a/a,a,a");
            due("shrink()", x.shrink(), 2);
            dueClause(x, 0, 0, 0, 1);
            dueClause(x, 1, 1, 1, 0);
        });
        named("Promise 7, shrink: none of 24 can be spared, wherever it stands", () -> {
            MiddleClaims x = Checks.of(ProofRows.ALL_24_ARE_NEEDED);
            int[] last = ProofRows.ALL_24_ARE_NEEDED[23];
            x.remove(23);
            due("without one they do not clash", x.shrink(), NOT_POSSIBLE);
            x.undo();
            x.remove(0);
            x.add(1, 0, 15);
            due("the first one at the end is needed too", x.shrink(), NONE);
            x.remove(22);
            due("the last of the tree is gone", x.count(5), 0);
            x.add(0, last[0], last[1]);
            due("and there again", x.shrink(), NONE);
        });
        named("Promise 7, shrink: 2 of 24 are left, the first and the last", () -> {
            MiddleClaims x = new MiddleClaims();
            for (int clause = 0; clause < 23; clause++) {
                x.add(0, clause == 0 ? 1 : 2 + clause % 5 * 4, 0);
            }
            x.add(1, 0, 1);
            due("count(0)", x.count(0), 24);
            due("shrink()", x.shrink(), 2);
            dueClause(x, 0, 0, 1, 0);
            dueClause(x, 1, 1, 0, 1);
            due("there is room", x.add(1, 8, 0), 2);
        });
        named("Promise 7, shrink: a needed clause all of whose resolvents are needed, and none else", () -> {
            // a and -ab give b, b and -b end it; a and -ac, which give c, do not.
            MiddleClaims x = Checks.with("a,-ac,-ab/-b");
            due("steps", x.count(3), 8);
            due("shrink()", x.shrink(), 3);
            dueClause(x, 0, 0, 1, 0);
            dueClause(x, 1, 0, 2, 1);
            dueClause(x, 2, 1, 0, 2);
        });
        named("Promise 7, shrink: also if the empty clause is the 400th step", () -> {
            MiddleClaims x = Checks.of(ProofRows.EMPTY_CLAUSE_IS_400TH);
            int needed = 0;
            int[] rows = new int[24];
            for (int clause = 0; clause < x.count(0); clause++) {
                if (x.clause(clause, 4) == 1) {
                    rows[needed++] = x.clause(clause, 0) << 12 | x.clause(clause, 1) << 6 | x.clause(clause, 2);
                }
            }
            due("some are needed, some not", needed > 1 && needed < x.count(0) ? 1 : 0, 1);
            due("shrink()", x.shrink(), needed);
            due("count(0)", x.count(0), needed);
            for (int clause = 0; clause < needed; clause++) {
                dueClause(x, clause, rows[clause] >> 12, rows[clause] >> 6 & 63, rows[clause] & 63);
            }
        });
        named("Promise 7, shrink: this is one act", () -> {
            MiddleClaims x = Setups.clashing();
            x.shrink();
            due("the history", x.count(9), 4);
            due("undo()", x.undo(), 3);
            due("count(0)", x.count(0), 5);
            dueClause(x, 3, 0, 4, 0);
            dueClause(x, 4, 0, 8, 1);
        });
    }

    private void knownSigns() {
        for (int sign = 0; sign < 6; sign++) {
            int one = 1 << sign;
            named("CLAUSES: the sign " + sign + " is known by itself or by its opposite", () -> {
                MiddleClaims x = new MiddleClaims();
                x.add(0, one, 0);
                due("side(0, 1)", x.side(0, 1), one);
                due("side(1, 1)", x.side(1, 1), 0);
                due("known to one side it is not shared", x.count(1), 0);
                x.add(1, 0, one);
                due("side(1, 1)", x.side(1, 1), one);
                due("known to both it is shared", x.count(1), one);
            });
        }
        named("CLAUSES: a sign is known by any clause of the side, the first or the last", () -> {
            MiddleClaims x = Checks.with("a,b,-c/-d,e,-c");
            due("side(0, 1)", x.side(0, 1), 7);
            due("side(1, 1)", x.side(1, 1), 28);
            due("count(1)", x.count(1), 4);
            x.remove(5);
            due("no longer shared", x.count(1), 0);
        });
        named("CLAUSES: all six signs shared", () -> {
            MiddleClaims x = Checks.with("abcdef/-a-b-c-d-e-f");
            due("count(1)", x.count(1), 63);
        });
        named("CLAUSES: a sign that comes in as it is and as its opposite on one side is not shared", () -> {
            MiddleClaims x = Checks.with("a,-a/b");
            due("count(1)", x.count(1), 0);
        });
    }

    private void worlds() {
        for (int sign = 0; sign < 6; sign++) {
            int one = 1 << sign;
            named("CLAUSES: the bit " + sign + " of a world tells of the sign " + sign, () -> {
                MiddleClaims x = new MiddleClaims();
                x.add(0, one, 0);
                due("the lowest world in which it is true", x.side(0, 3), one);
                due("in how many it is", x.clause(0, 3), 32);
                x.add(1, 0, 63 ^ one);
                for (int other = 1; other < 64; other = other << 1) {
                    if (other != one) {
                        x.add(1, 0, other);
                    }
                }
                due("it alone, in just one world", x.count(8), 1);
                x.add(0, 0, one);
                due("and its opposite, in none", x.count(8), 0);
                due("they clash", x.count(2), 1);
            });
        }
        named("CLAUSES: they clash only if no world is left, also not the last one", () -> {
            MiddleClaims x = Checks.with("a,b,c/d,e,f");
            due("in the world 63", x.count(8), 1);
            due("no clash", x.count(2), 0);
            x.add(1, 0, 63);
            due("in none", x.count(8), 0);
            due("a clash", x.count(2), 1);
        });
        named("CLAUSES: they clash only if no world is left, also not the first one", () -> {
            MiddleClaims x = Checks.with("-a,-b,-c/-d,-e,-f");
            due("in the world 0", x.count(8), 1);
            due("no clash", x.count(2), 0);
            x.add(0, 63, 0);
            due("a clash", x.count(2), 1);
        });
        named("CLAUSES: a side that has no world itself clashes with any", () -> {
            MiddleClaims x = Checks.with("a,-a");
            due("with no clauses on the side 1", x.count(2), 1);
            x.exchange();
            due("with no clauses on the side 0", x.count(2), 1);
        });
    }
}
