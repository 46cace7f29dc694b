import java.util.ArrayList;
import java.util.HashSet;
import java.util.List;
import java.util.Set;

/**
 * The document once more, as plainly as its words allow and with another way of holding things than
 * the program: literals are numbers (1 to 6 for a sign, -1 to -6 for its opposite), a clause is a
 * set of them, a claim is a list of 64 truths, and nothing is kept from one call to the next.
 */
final class PlainModel {
    record Placed(int side, Set<Integer> literals) {}

    record Step(Set<Integer> literals, int side, int t, int s, int pivot) {}

    private List<Placed> clauses = new ArrayList<>();
    private List<Placed> snapshot = null;
    private final List<List<Placed>> history = new ArrayList<>();
    private final List<Character> text = new ArrayList<>();
    /** Made anew after each change; null while it has not been asked for. */
    private List<Step> steps = null;
    private boolean known = false;

    private void record() {
        history.add(new ArrayList<>(clauses));
        if (history.size() > 4) {
            history.remove(0);
        }
        steps = null;
    }

    private static Set<Integer> literals(int signs, int opposites) {
        Set<Integer> all = new HashSet<>();
        for (int k = 0; k < 6; k++) {
            if ((signs & (1 << k)) != 0) {
                all.add(k + 1);
            }
            if ((opposites & (1 << k)) != 0) {
                all.add(-(k + 1));
            }
        }
        return all;
    }

    private static int set(Set<Integer> literals, int sense) {
        int bits = 0;
        for (int literal : literals) {
            if (literal * sense > 0) {
                bits += 1 << (Math.abs(literal) - 1);
            }
        }
        return bits;
    }

    private static boolean isTrue(Set<Integer> literals, int world) {
        for (int literal : literals) {
            boolean sign = (world / (1 << (Math.abs(literal) - 1))) % 2 == 1;
            if (sign == literal > 0) {
                return true;
            }
        }
        return false;
    }

    private boolean sideIsTrue(int side, int world) {
        for (Placed each : clauses) {
            if (each.side == side && !isTrue(each.literals, world)) {
                return false;
            }
        }
        return true;
    }

    private boolean knows(int side, int sign) {
        for (Placed each : clauses) {
            if (each.side == side && (each.literals.contains(sign + 1) || each.literals.contains(-sign - 1))) {
                return true;
            }
        }
        return false;
    }

    private boolean isShared(int sign) {
        return knows(0, sign) && knows(1, sign);
    }

    private boolean clash() {
        for (int world = 0; world < 64; world++) {
            if (sideIsTrue(0, world) && sideIsTrue(1, world)) {
                return false;
            }
        }
        return true;
    }

    private void prove() {
        if (steps != null) {
            return;
        }
        steps = new ArrayList<>();
        known = true;
        Set<Set<Integer>> there = new HashSet<>();
        for (Placed each : clauses) {
            steps.add(new Step(each.literals, each.side, -5, -5, -5));
            there.add(each.literals);
        }
        for (int s = 0; s < steps.size(); s++) {
            for (int t = 0; t < s; t++) {
                Step child = resolvent(t, s);
                if (child == null || there.contains(child.literals)) {
                    continue;
                }
                if (steps.size() == 400) {
                    known = false;
                    return;
                }
                steps.add(child);
                there.add(child.literals);
                if (child.literals.isEmpty()) {
                    return;
                }
            }
        }
    }

    private Step resolvent(int t, int s) {
        Set<Integer> one = steps.get(t).literals;
        Set<Integer> other = steps.get(s).literals;
        int against = 0;
        int pivot = -1;
        for (int literal : one) {
            if (other.contains(-literal)) {
                against++;
                pivot = Math.abs(literal) - 1;
            }
        }
        if (against != 1) {
            return null;
        }
        Set<Integer> both = new HashSet<>(one);
        both.addAll(other);
        both.remove(pivot + 1);
        both.remove(-pivot - 1);
        return new Step(both, -1, t, s, pivot);
    }

    private boolean hasEmpty() {
        prove();
        return known && !steps.isEmpty() && steps.get(steps.size() - 1).literals.isEmpty();
    }

    private Set<Integer> needed() {
        Set<Integer> all = new HashSet<>();
        if (hasEmpty()) {
            need(steps.size() - 1, all);
        }
        return all;
    }

    private void need(int step, Set<Integer> all) {
        if (step >= 0 && all.add(step)) {
            need(steps.get(step).t, all);
            need(steps.get(step).s, all);
        }
    }

    /** Each step's partial claim, world by world. */
    private boolean[] partialClaims(int manner, int world) {
        boolean[] claims = new boolean[steps.size()];
        for (int i = 0; i < claims.length; i++) {
            Step step = steps.get(i);
            if (step.side == 0) {
                for (int literal : step.literals) {
                    if (manner == 1 && isShared(Math.abs(literal) - 1) && isTrue(Set.of(literal), world)) {
                        claims[i] = true;
                    }
                }
            } else if (step.side == 1) {
                claims[i] = true;
            } else if (!isShared(step.pivot)) {
                claims[i] = knows(0, step.pivot)
                    ? claims[step.t] || claims[step.s]
                    : claims[step.t] && claims[step.s];
            } else if (manner == 1) {
                claims[i] = claims[step.t] && claims[step.s];
            } else {
                boolean pivotTrue = (world >> step.pivot) % 2 == 1;
                int wanted = pivotTrue ? -(step.pivot + 1) : step.pivot + 1;
                claims[i] = claims[steps.get(step.t).literals.contains(wanted) ? step.t : step.s];
            }
        }
        return claims;
    }

    private boolean[] middleClaim(int manner) {
        boolean[] claim = new boolean[64];
        for (int world = 0; world < 64; world++) {
            claim[world] = partialClaims(manner, world)[steps.size() - 1];
        }
        return claim;
    }

    private static int half(boolean[] claim, int half) {
        int bits = 0;
        for (int k = 0; k < 32; k++) {
            if (claim[32 * half + k]) {
                bits |= 1 << k;
            }
        }
        return bits;
    }

    private static int countTrue(boolean[] claim) {
        int found = 0;
        for (boolean each : claim) {
            found += each ? 1 : 0;
        }
        return found;
    }

    private boolean lookAlike(int world, int other) {
        for (int sign = 0; sign < 6; sign++) {
            if (isShared(sign) && ((world >> sign) & 1) != ((other >> sign) & 1)) {
                return false;
            }
        }
        return true;
    }

    int add(int side, int signs, int opposites) {
        if (side < 0 || side > 1) {
            return -1;
        }
        if (signs < 0 || signs > 63 || opposites < 0 || opposites > 63) {
            return -2;
        }
        if (signs + opposites == 0 || (signs & opposites) > 0) {
            return -2;
        }
        if (clauses.size() == 24) {
            return -3;
        }
        record();
        clauses.add(new Placed(side, literals(signs, opposites)));
        return clauses.size() - 1;
    }

    /** Whether these characters are the beginning of a text of clauses: one letter can end any. */
    private static boolean isBeginning(String characters) {
        for (String more : new String[] {"", "a", "b", "c", "d", "e", "f"}) {
            if (isText(characters + more)) {
                return true;
            }
        }
        return false;
    }

    private static boolean isText(String characters) {
        if (characters.chars().filter(c -> c == '/').count() > 1) {
            return false;
        }
        for (String each : characters.split("[,/]", -1)) {
            if (each.isEmpty() || !each.matches("(-?a)?(-?b)?(-?c)?(-?d)?(-?e)?(-?f)?")) {
                return false;
            }
        }
        return true;
    }

    private String typed() {
        StringBuilder all = new StringBuilder();
        for (char each : text) {
            all.append(each);
        }
        return all.toString();
    }

    /** The fault of the text, or -1. */
    private int fault() {
        String all = typed();
        for (int i = 0; i < all.length(); i++) {
            if (!isBeginning(all.substring(0, i + 1))) {
                return i;
            }
        }
        return isText(all) ? -1 : all.length();
    }

    int addAll() {
        int fault = fault();
        if (fault >= 0) {
            return -100 - fault;
        }
        List<Placed> found = new ArrayList<>();
        String[] sides = typed().split("/");
        for (int side = 0; side < sides.length; side++) {
            for (String each : sides[side].split(",")) {
                Set<Integer> literals = new HashSet<>();
                for (int k = 0; k < 6; k++) {
                    String sign = String.valueOf((char) ('a' + k));
                    if (each.contains(sign)) {
                        literals.add(each.contains("-" + sign) ? -k - 1 : k + 1);
                    }
                }
                found.add(new Placed(side, literals));
            }
        }
        if (clauses.size() + found.size() > 24) {
            return -3;
        }
        record();
        clauses.addAll(found);
        return found.size();
    }

    private boolean isClause(int clause) {
        return clause >= 0 && clause < clauses.size();
    }

    int remove(int clause) {
        if (!isClause(clause)) {
            return -1;
        }
        record();
        clauses.remove(clause);
        return clauses.size();
    }

    int move(int clause) {
        if (!isClause(clause)) {
            return -1;
        }
        record();
        Placed old = clauses.get(clause);
        clauses.set(clause, new Placed(1 - old.side, old.literals));
        return 1 - old.side;
    }

    int exchange() {
        if (clauses.isEmpty()) {
            return -5;
        }
        record();
        clauses.replaceAll(each -> new Placed(1 - each.side, each.literals));
        return side(0, 0);
    }

    int shrink() {
        if (!hasEmpty()) {
            return -4;
        }
        Set<Integer> needed = needed();
        List<Placed> left = new ArrayList<>();
        for (int i = 0; i < clauses.size(); i++) {
            if (needed.contains(i)) {
                left.add(clauses.get(i));
            }
        }
        if (left.size() == clauses.size()) {
            return -5;
        }
        record();
        clauses = left;
        return left.size();
    }

    int type(char character) {
        if (text.size() == 60) {
            return -3;
        }
        text.add(character);
        return text.size();
    }

    int clearText() {
        int length = text.size();
        text.clear();
        return length;
    }

    int undo() {
        if (history.isEmpty()) {
            return -5;
        }
        clauses = history.remove(history.size() - 1);
        steps = null;
        return history.size();
    }

    int keep() {
        snapshot = new ArrayList<>(clauses);
        return clauses.size();
    }

    int restore() {
        if (snapshot == null) {
            return -5;
        }
        record();
        clauses = new ArrayList<>(snapshot);
        return clauses.size();
    }

    int clause(int clause, int what) {
        if (!isClause(clause)) {
            return -1;
        }
        Placed told = clauses.get(clause);
        switch (what) {
            case 0: return told.side;
            case 1: return set(told.literals, 1);
            case 2: return set(told.literals, -1);
            case 3: {
                int found = 0;
                for (int world = 0; world < 64; world++) {
                    found += isTrue(told.literals, world) ? 1 : 0;
                }
                return found;
            }
            case 4: return needed().contains(clause) ? 1 : 0;
            default: return -2;
        }
    }

    int side(int side, int what) {
        if (side < 0 || side > 1) {
            return -1;
        }
        if (what < 0 || what > 3) {
            return -2;
        }
        int number = 0;
        int known = 0;
        int worlds = 0;
        int lowest = -5;
        for (Placed each : clauses) {
            number += each.side == side ? 1 : 0;
        }
        for (int sign = 0; sign < 6; sign++) {
            known += knows(side, sign) ? 1 << sign : 0;
        }
        for (int world = 63; world >= 0; world--) {
            if (sideIsTrue(side, world)) {
                worlds++;
                lowest = world;
            }
        }
        return new int[] {number, known, worlds, lowest}[what];
    }

    int step(int step, int what) {
        prove();
        if (!known) {
            return -4;
        }
        if (step < 0 || step >= steps.size()) {
            return -1;
        }
        Step told = steps.get(step);
        switch (what) {
            case 0: return set(told.literals, 1);
            case 1: return set(told.literals, -1);
            case 2: return told.t;
            case 3: return told.s;
            case 4: return told.pivot;
            case 5: return needed().contains(step) ? 1 : 0;
            default: return -2;
        }
    }

    int partial(int step, int manner, int world) {
        if (!hasEmpty()) {
            return -4;
        }
        if (step < 0 || step >= steps.size()) {
            return -1;
        }
        if (manner < 0 || manner > 1 || world < 0 || world > 63) {
            return -2;
        }
        return partialClaims(manner, world)[step] ? 1 : 0;
    }

    int middle(int manner, int half) {
        if (manner < 0 || manner > 1 || half < 0 || half > 1 || !hasEmpty()) {
            return 0;
        }
        return half(middleClaim(manner), half);
    }

    int outermost(boolean weakest, int half) {
        if (half < 0 || half > 1 || !clash()) {
            return 0;
        }
        boolean[] claim = new boolean[64];
        for (int world = 0; world < 64; world++) {
            boolean touched = false;
            for (int other = 0; other < 64; other++) {
                touched |= lookAlike(world, other) && sideIsTrue(weakest ? 1 : 0, other);
            }
            claim[world] = touched != weakest;
        }
        return half(claim, half);
    }

    int test(int low, int high) {
        boolean[] claim = new boolean[64];
        for (int world = 0; world < 64; world++) {
            claim[world] = (((world < 32 ? low : high) >>> (world % 32)) & 1) == 1;
        }
        int wrong = 4;
        for (int world = 0; world < 64; world++) {
            if (sideIsTrue(0, world) && !claim[world]) {
                wrong = Math.min(wrong, 1);
            }
            if (sideIsTrue(1, world) && claim[world]) {
                wrong = Math.min(wrong, 2);
            }
            for (int other = 0; other < world; other++) {
                if (claim[world] != claim[other] && lookAlike(world, other)) {
                    wrong = Math.min(wrong, 3);
                }
            }
        }
        return wrong % 4;
    }

    int compare() {
        if (!hasEmpty()) {
            return -4;
        }
        boolean[] claim0 = middleClaim(0);
        boolean[] claim1 = middleClaim(1);
        boolean below = true;
        boolean above = true;
        for (int world = 0; world < 64; world++) {
            below &= !claim0[world] || claim1[world];
            above &= !claim1[world] || claim0[world];
        }
        return below && above ? 0 : below ? 1 : above ? 2 : 3;
    }

    int count(int what) {
        prove();
        int shared = 0;
        int worlds = 0;
        for (int sign = 0; sign < 6; sign++) {
            shared += isShared(sign) ? 1 << sign : 0;
        }
        for (int world = 0; world < 64; world++) {
            worlds += sideIsTrue(0, world) && sideIsTrue(1, world) ? 1 : 0;
        }
        switch (what) {
            case 0: return clauses.size();
            case 1: return shared;
            case 2: return worlds == 0 ? 1 : 0;
            case 3: return known ? steps.size() : 401;
            case 4: return needed().size();
            case 5: return hasEmpty() ? 1 : 0;
            case 6: return hasEmpty() ? countTrue(middleClaim(0)) : -5;
            case 7: return hasEmpty() ? countTrue(middleClaim(1)) : -5;
            case 8: return worlds;
            case 9: return history.size();
            case 10: return text.size();
            default: return -2;
        }
    }
}
