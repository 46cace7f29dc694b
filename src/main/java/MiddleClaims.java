/**
 * Middle claims between two sides that contradict one another, read off a proof that they clash.
 *
 * A set of signs is an int (the bit k for the sign k); a claim is a long (the bit w for the world w).
 */
public final class MiddleClaims {
    /** There is no such clause, step, side or sign. */
    public static final int UNKNOWN = -1;
    /** Another argument is out of range. */
    public static final int BAD_VALUE = -2;
    /** There is no more room. */
    public static final int FULL = -3;
    /** This is not possible. */
    public static final int NOT_POSSIBLE = -4;
    /** There is no such thing; not an error. */
    public static final int NONE = -5;

    private static final int SIGNS = 6;
    private static final int ALL_SIGNS = 63;
    private static final int WORLDS = 64;
    private static final int MOST_CLAUSES = 24;
    private static final int MOST_STEPS = 400;
    private static final int MOST_STATES = 4;
    private static final int MOST_CHARACTERS = 60;
    /** Each clause of a text takes a letter, and all but the last one a "," or a "/". */
    private static final int MOST_TEXT_CLAUSES = 30;
    private static final int LAST_CHARACTER = 255;
    /** No text of clauses has this one or one behind LAST_CHARACTER, so it stands for all of those. */
    private static final char OTHER_CHARACTER = '?';
    private static final int NO_FAULT = -1;
    private static final int FAULT_BASE = -100;

    /** For each sign the worlds in which it is true. */
    private static final long[] WORLDS_OF_SIGN = {
        0xAAAAAAAAAAAAAAAAL,
        0xCCCCCCCCCCCCCCCCL,
        0xF0F0F0F0F0F0F0F0L,
        0xFF00FF00FF00FF00L,
        0xFFFF0000FFFF0000L,
        0xFFFFFFFF00000000L
    };

    private final Clauses clauses;
    private final Clauses textClauses;
    private final Clauses snapshot;
    private boolean snapshotTaken;
    private final History history;
    private final Text text;
    private final Proof proof;
    /** The proof is dear, so it is made when it is asked for, and stands until the clauses change. */
    private boolean proofStands;

    /** Creates two sides without clauses. */
    public MiddleClaims() {
        clauses = new Clauses(MOST_CLAUSES);
        textClauses = new Clauses(MOST_TEXT_CLAUSES);
        snapshot = new Clauses(MOST_CLAUSES);
        snapshotTaken = false;
        history = new History();
        text = new Text();
        proof = new Proof();
        proofStands = false;
    }

    // ---- clauses

    /**
     * Adds a clause to a side. This is an act.
     *
     * @param side 0 or 1
     * @param signs the signs that are in it as they are, 0 to 63
     * @param opposites the signs whose opposites are in it, 0 to 63
     * @return its number; UNKNOWN (side); BAD_VALUE (also if both are 0, or have a sign in common);
     *     FULL if there are 24
     */
    public int add(int side, int signs, int opposites) {
        if (!isZeroOrOne(side)) {
            return UNKNOWN;
        }
        if (!isSetOfSigns(signs) || !isSetOfSigns(opposites)) {
            return BAD_VALUE;
        }
        if ((signs | opposites) == 0 || (signs & opposites) != 0) {
            return BAD_VALUE;
        }
        if (clauses.size() >= MOST_CLAUSES) {
            return FULL;
        }
        beginAct();
        clauses.append(side, signs, opposites);
        return clauses.size() - 1;
    }

    /**
     * Adds the clauses of the text, which stays; all of them, or none. This is one act.
     *
     * @return how many the text has; -100 minus the fault of the text if it has one (which is an
     *     error); FULL if there would be more than 24
     */
    public int addAll() {
        int fault = text.readInto(textClauses);
        if (fault != NO_FAULT) {
            return FAULT_BASE - fault;
        }
        if (clauses.size() + textClauses.size() > MOST_CLAUSES) {
            return FULL;
        }
        beginAct();
        clauses.appendEach(textClauses);
        return textClauses.size();
    }

    /**
     * Removes a clause; those behind it have numbers that are 1 less then. This is an act.
     *
     * @param clause a clause
     * @return how many there are then; UNKNOWN
     */
    public int remove(int clause) {
        if (!clauses.has(clause)) {
            return UNKNOWN;
        }
        beginAct();
        clauses.drop(clause);
        return clauses.size();
    }

    /**
     * Moves a clause to the other side (its number stays). This is an act.
     *
     * @param clause a clause
     * @return the side on which it is then; UNKNOWN
     */
    public int move(int clause) {
        if (!clauses.has(clause)) {
            return UNKNOWN;
        }
        beginAct();
        clauses.changeSide(clause);
        return clauses.sideOf(clause);
    }

    /**
     * Exchanges the sides of all clauses. This is an act.
     *
     * @return how many clauses the side 0 has then; NONE if there are no clauses
     */
    public int exchange() {
        if (clauses.size() == 0) {
            return NONE;
        }
        beginAct();
        for (int clause = 0; clause < clauses.size(); clause++) {
            clauses.changeSide(clause);
        }
        return clauses.sizeOfSide(0);
    }

    /**
     * Removes all clauses that are not needed by the proof. This is an act.
     *
     * @return how many are left; NOT_POSSIBLE if the empty clause is no step, or the proof is not
     *     known; NONE if all are needed
     */
    public int shrink() {
        Proof made = currentProof();
        if (!made.hasEmptyClause()) {
            return NOT_POSSIBLE;
        }
        if (made.neededAmong(clauses.size()) == clauses.size()) {
            return NONE;
        }
        beginAct();
        // From behind, so that the numbers of those ahead are still the ones that the proof knows.
        for (int clause = clauses.size() - 1; clause >= 0; clause--) {
            if (!made.isNeeded(clause)) {
                clauses.drop(clause);
            }
        }
        return clauses.size();
    }

    // ---- texts

    /**
     * Types a character behind the text.
     *
     * @param character any character
     * @return the length of the text then; FULL if it has 60 characters
     */
    public int type(char character) {
        return text.append(character) ? text.length() : FULL;
    }

    /**
     * Empties the text.
     *
     * @return the length that it had
     */
    public int clearText() {
        int length = text.length();
        text.clear();
        return length;
    }

    // ---- history

    /**
     * Removes and restores the latest state of the history.
     *
     * @return the number of states that are left; NONE if the history is empty
     */
    public int undo() {
        if (history.size() == 0) {
            return NONE;
        }
        history.takeLatestInto(clauses);
        proofStands = false;
        return history.size();
    }

    /**
     * Takes a snapshot of the state, in place of the one that was.
     *
     * @return how many clauses there are
     */
    public int keep() {
        snapshot.becomeLike(clauses);
        snapshotTaken = true;
        return clauses.size();
    }

    /**
     * Restores the state of the snapshot, which stays. This is an act.
     *
     * @return how many clauses there are then; NONE if there is no snapshot
     */
    public int restore() {
        if (!snapshotTaken) {
            return NONE;
        }
        beginAct();
        clauses.becomeLike(snapshot);
        return clauses.size();
    }

    // ---- what is told

    /**
     * Tells of a clause.
     *
     * @param clause a clause
     * @param what 0 for its side, 1 for the signs that are in it as they are (a set), 2 for those
     *     whose opposites are (a set), 3 for how many worlds it is true in, 4 for whether it is
     *     needed by the proof (1, otherwise 0; 0 if the proof is not known)
     * @return the number; UNKNOWN; BAD_VALUE
     */
    public int clause(int clause, int what) {
        if (!clauses.has(clause)) {
            return UNKNOWN;
        }
        switch (what) {
            case 0:
                return clauses.sideOf(clause);
            case 1:
                return clauses.signsOf(clause);
            case 2:
                return clauses.oppositesOf(clause);
            case 3:
                return Long.bitCount(clauses.worldsOf(clause));
            case 4:
                return asNumber(currentProof().isNeeded(clause));
            default:
                return BAD_VALUE;
        }
    }

    /**
     * Tells of a side.
     *
     * @param side 0 or 1
     * @param what 0 for its clauses, 1 for the signs that it knows (a set), 2 for how many worlds
     *     all of its clauses are true in, 3 for the lowest of these worlds (NONE without any)
     * @return the number; UNKNOWN; BAD_VALUE
     */
    public int side(int side, int what) {
        if (!isZeroOrOne(side)) {
            return UNKNOWN;
        }
        switch (what) {
            case 0:
                return clauses.sizeOfSide(side);
            case 1:
                return clauses.signsKnownTo(side);
            case 2:
                return Long.bitCount(clauses.worldsOfSide(side));
            case 3:
                return lowestWorld(clauses.worldsOfSide(side));
            default:
                return BAD_VALUE;
        }
    }

    /**
     * Tells of a step of the proof.
     *
     * @param step a step of the proof
     * @param what 0 for the signs that are in it as they are (a set), 1 for those whose opposites
     *     are (a set), 2 and 3 for its first and second parent (t and s; NONE for a clause), 4 for
     *     its pivot (NONE for a clause), 5 for whether it is needed (1, otherwise 0)
     * @return the number; NOT_POSSIBLE if the proof is not known; UNKNOWN; BAD_VALUE
     */
    public int step(int step, int what) {
        Proof made = currentProof();
        if (!made.isKnown()) {
            return NOT_POSSIBLE;
        }
        if (!made.has(step)) {
            return UNKNOWN;
        }
        switch (what) {
            case 0:
                return made.signsOf(step);
            case 1:
                return made.oppositesOf(step);
            case 2:
                return made.firstParentOf(step);
            case 3:
                return made.secondParentOf(step);
            case 4:
                return made.pivotOf(step);
            case 5:
                return asNumber(made.isNeeded(step));
            default:
                return BAD_VALUE;
        }
    }

    /**
     * Tells the partial claim of a step in a world.
     *
     * @param step a step of the proof
     * @param manner 0 or 1
     * @param world 0 to 63
     * @return 1 if it is true, otherwise 0; NOT_POSSIBLE if the empty clause is no step, or the
     *     proof is not known; UNKNOWN (step); BAD_VALUE
     */
    public int partial(int step, int manner, int world) {
        Proof made = currentProof();
        if (!made.hasEmptyClause()) {
            return NOT_POSSIBLE;
        }
        if (!made.has(step)) {
            return UNKNOWN;
        }
        if (!isZeroOrOne(manner) || world < 0 || world >= WORLDS) {
            return BAD_VALUE;
        }
        return (int) ((made.partialClaim(step, manner) >>> world) & 1L);
    }

    /**
     * Tells the middle claim of a manner.
     *
     * @param manner 0 or 1
     * @param half 0 for the worlds 0 to 31, 1 for the worlds 32 to 63 (as bits, 1 if it is true:
     *     the bit k tells of the world k, or 32 + k)
     * @return the set (as an int; all bits may be used); 0 if half or manner is out of range, or
     *     the empty clause is no step, or the proof is not known
     */
    public int middle(int manner, int half) {
        if (!isZeroOrOne(manner) || !isZeroOrOne(half)) {
            return 0;
        }
        Proof made = currentProof();
        return made.hasEmptyClause() ? halfOf(made.middleClaim(manner), half) : 0;
    }

    /**
     * Tells of the strongest middle claim, which is true in the fewest worlds, and the weakest one,
     * which is true in the most.
     *
     * @param weakest whether the weakest one is told
     * @param half 0 or 1, as for middle()
     * @return the set; 0 if half is out of range, or the sides do not clash
     */
    public int outermost(boolean weakest, int half) {
        if (!isZeroOrOne(half) || !clauses.clash()) {
            return 0;
        }
        int shared = clauses.sharedSigns();
        // A middle claim must be true wherever the side 0 is, and false wherever the side 1 is, and
        // with a world also in all that look alike to the shared signs: nothing else binds it.
        long claim = weakest
            ? ~spread(clauses.worldsOfSide(1), shared)
            : spread(clauses.worldsOfSide(0), shared);
        return halfOf(claim, half);
    }

    /**
     * Tells whether a claim is a middle claim.
     *
     * @param low the worlds 0 to 31 in which it is true
     * @param high the worlds 32 to 63
     * @return 0 if it is one; 1 if it is false in a world in which the side 0 is true, 2 if it is
     *     true in a world in which the side 1 is true, 3 if it is not the same in worlds that
     *     differ in signs that are not shared (the first of these that applies)
     */
    public int test(int low, int high) {
        long claim = ((long) high << 32) | (low & 0xFFFFFFFFL);
        if ((clauses.worldsOfSide(0) & ~claim) != 0L) {
            return 1;
        }
        if ((clauses.worldsOfSide(1) & claim) != 0L) {
            return 2;
        }
        return spread(claim, clauses.sharedSigns()) == claim ? 0 : 3;
    }

    /**
     * Compares the middle claims of both manners.
     *
     * @return 0 if they are the same, 1 if that of the manner 0 is stronger (whenever it is true,
     *     so is the other one), 2 if that of the manner 1 is stronger, 3 if neither is;
     *     NOT_POSSIBLE if the empty clause is no step, or the proof is not known
     */
    public int compare() {
        Proof made = currentProof();
        if (!made.hasEmptyClause()) {
            return NOT_POSSIBLE;
        }
        long claim0 = made.middleClaim(0);
        long claim1 = made.middleClaim(1);
        if (claim0 == claim1) {
            return 0;
        }
        if ((claim0 & ~claim1) == 0L) {
            return 1;
        }
        return (claim1 & ~claim0) == 0L ? 2 : 3;
    }

    /**
     * Counts.
     *
     * @param what 0 for clauses, 1 for shared signs (a set), 2 for whether the sides clash (1,
     *     otherwise 0), 3 for steps of the proof (401 if it is not known), 4 for needed steps (0 if
     *     it is not known), 5 for whether the empty clause is a step (1, otherwise 0; 0 if it is
     *     not known), 6 and 7 for how many worlds the middle claim of the manner 0, 1 is true in
     *     (NONE without one), 8 for the worlds in which all clauses of both sides are true, 9 for
     *     the states in the history, 10 for the length of the text
     * @return the number; BAD_VALUE
     */
    public int count(int what) {
        switch (what) {
            case 0:
                return clauses.size();
            case 1:
                return clauses.sharedSigns();
            case 2:
                return asNumber(clauses.clash());
            case 3:
                return stepsOf(currentProof());
            case 4:
                return currentProof().neededAmong(MOST_STEPS);
            case 5:
                return asNumber(currentProof().hasEmptyClause());
            case 6:
                return worldsOfMiddleClaim(currentProof(), 0);
            case 7:
                return worldsOfMiddleClaim(currentProof(), 1);
            case 8:
                return Long.bitCount(clauses.worldsOfBoth());
            case 9:
                return history.size();
            case 10:
                return text.length();
            default:
                return BAD_VALUE;
        }
    }

    // ---- helpers

    /** To be called ahead of each change that is an act, when nothing can go wrong any more. */
    private void beginAct() {
        history.remember(clauses);
        proofStands = false;
    }

    private Proof currentProof() {
        if (!proofStands) {
            proof.make(clauses);
            proofStands = true;
        }
        return proof;
    }

    private static int stepsOf(Proof made) {
        return made.isKnown() ? made.size() : MOST_STEPS + 1;
    }

    private static int worldsOfMiddleClaim(Proof made, int manner) {
        return made.hasEmptyClause() ? Long.bitCount(made.middleClaim(manner)) : NONE;
    }

    private static boolean isZeroOrOne(int number) {
        return number == 0 || number == 1;
    }

    private static boolean isSetOfSigns(int signs) {
        return signs >= 0 && signs <= ALL_SIGNS;
    }

    private static int asNumber(boolean truth) {
        return truth ? 1 : 0;
    }

    private static boolean isIn(int sign, int signs) {
        return ((signs >> sign) & 1) != 0;
    }

    private static int halfOf(long claim, int half) {
        return half == 0 ? (int) claim : (int) (claim >>> 32);
    }

    private static int lowestWorld(long worlds) {
        // Below the lowest bit there are as many bits as its index tells.
        return worlds == 0L ? NONE : Long.bitCount((worlds & -worlds) - 1L);
    }

    private static long worldsOfSign(int sign) {
        return sign >= 0 && sign < WORLDS_OF_SIGN.length ? WORLDS_OF_SIGN[sign] : 0L;
    }

    /** The worlds in which any of the literals is true. */
    private static long worldsOfLiterals(int signs, int opposites) {
        long worlds = 0L;
        for (int sign = 0; sign < SIGNS; sign++) {
            if (isIn(sign, signs)) {
                worlds |= worldsOfSign(sign);
            }
            if (isIn(sign, opposites)) {
                worlds |= ~worldsOfSign(sign);
            }
        }
        return worlds;
    }

    /** The worlds that differ from one of these in signs that are not shared alone. */
    private static long spread(long worlds, int shared) {
        long all = worlds;
        for (int sign = 0; sign < SIGNS; sign++) {
            if (!isIn(sign, shared)) {
                int apart = 1 << sign;
                long with = worldsOfSign(sign);
                all |= ((all & with) >>> apart) | ((all & ~with) << apart);
            }
        }
        return all;
    }

    /** A row of clauses of two sides: a state, or what a text tells. */
    private static final class Clauses {
        private final int[] sides;
        private final int[] signs;
        private final int[] opposites;
        private int size;

        Clauses(int room) {
            int length = Math.max(0, room);
            sides = new int[length];
            signs = new int[length];
            opposites = new int[length];
            size = 0;
        }

        int size() {
            return size;
        }

        boolean has(int clause) {
            return clause >= 0 && clause < size && clause < sides.length;
        }

        int sideOf(int clause) {
            return has(clause) ? sides[clause] : 0;
        }

        int signsOf(int clause) {
            return has(clause) ? signs[clause] : 0;
        }

        int oppositesOf(int clause) {
            return has(clause) ? opposites[clause] : 0;
        }

        void clear() {
            size = 0;
        }

        void append(int side, int newSigns, int newOpposites) {
            if (size >= 0 && size < sides.length) {
                sides[size] = side;
                signs[size] = newSigns;
                opposites[size] = newOpposites;
                size++;
            }
        }

        void appendEach(Clauses others) {
            int many = others.size();
            for (int clause = 0; clause < many; clause++) {
                append(others.sideOf(clause), others.signsOf(clause), others.oppositesOf(clause));
            }
        }

        void becomeLike(Clauses others) {
            clear();
            appendEach(others);
        }

        void drop(int clause) {
            if (!has(clause)) {
                return;
            }
            for (int from = clause + 1; from < size && from < sides.length; from++) {
                sides[from - 1] = sides[from];
                signs[from - 1] = signs[from];
                opposites[from - 1] = opposites[from];
            }
            size--;
        }

        void changeSide(int clause) {
            if (has(clause)) {
                sides[clause] = 1 - sides[clause];
            }
        }

        int sizeOfSide(int side) {
            int found = 0;
            for (int clause = 0; clause < size; clause++) {
                found += asNumber(sideOf(clause) == side);
            }
            return found;
        }

        int signsKnownTo(int side) {
            int known = 0;
            for (int clause = 0; clause < size; clause++) {
                if (sideOf(clause) == side) {
                    known |= signsOf(clause) | oppositesOf(clause);
                }
            }
            return known;
        }

        int sharedSigns() {
            return signsKnownTo(0) & signsKnownTo(1);
        }

        long worldsOf(int clause) {
            return worldsOfLiterals(signsOf(clause), oppositesOf(clause));
        }

        long worldsOfSide(int side) {
            long worlds = -1L;
            for (int clause = 0; clause < size; clause++) {
                if (sideOf(clause) == side) {
                    worlds &= worldsOf(clause);
                }
            }
            return worlds;
        }

        long worldsOfBoth() {
            return worldsOfSide(0) & worldsOfSide(1);
        }

        boolean clash() {
            return worldsOfBoth() == 0L;
        }
    }

    /** The states that undo can restore, the oldest one first. */
    private static final class History {
        private final Clauses[] states;
        private int size;

        History() {
            states = new Clauses[MOST_STATES];
            for (int state = 0; state < states.length; state++) {
                states[state] = new Clauses(MOST_CLAUSES);
            }
            size = 0;
        }

        int size() {
            return size;
        }

        void remember(Clauses state) {
            if (size >= states.length && states.length > 0) {
                dropOldest();
            }
            if (size >= 0 && size < states.length && states[size] != null) {
                states[size].becomeLike(state);
                size++;
            }
        }

        void takeLatestInto(Clauses state) {
            int latest = size - 1;
            if (latest >= 0 && latest < states.length && states[latest] != null) {
                state.becomeLike(states[latest]);
                size = latest;
            }
        }

        /** The rows of the oldest state are used again for the next one. */
        private void dropOldest() {
            Clauses oldest = states[0];
            for (int state = 1; state < states.length; state++) {
                states[state - 1] = states[state];
            }
            states[states.length - 1] = oldest;
            size--;
        }
    }

    /** The text that is typed, and the reading of clauses from it. */
    private static final class Text {
        private final char[] characters;
        private int length;
        private int side;
        private int signs;
        private int opposites;
        /** The latest sign of the clause that is read; -1 while it has none. */
        private int lastSign;
        /** Whether a "-" waits for its letter. */
        private boolean afterMinus;

        Text() {
            characters = new char[MOST_CHARACTERS];
            length = 0;
        }

        int length() {
            return length;
        }

        void clear() {
            length = 0;
        }

        boolean append(char character) {
            if (length < 0 || length >= characters.length) {
                return false;
            }
            characters[length] = character <= LAST_CHARACTER ? character : OTHER_CHARACTER;
            length++;
            return true;
        }

        /** Reads the clauses of the text; answers the fault, or NO_FAULT. */
        int readInto(Clauses found) {
            found.clear();
            side = 0;
            beginClause();
            for (int at = 0; at < length && at < characters.length; at++) {
                if (!reads(characters[at], found)) {
                    return at;
                }
            }
            return endsClause(found) ? NO_FAULT : length;
        }

        private void beginClause() {
            signs = 0;
            opposites = 0;
            lastSign = -1;
            afterMinus = false;
        }

        /** Whether the character is allowed at its place. */
        private boolean reads(char character, Clauses found) {
            if (character == '-') {
                return readsMinus();
            }
            if (character == ',') {
                return endsClause(found);
            }
            if (character == '/') {
                return readsSlash(found);
            }
            return readsSign(character - 'a');
        }

        private boolean readsMinus() {
            if (afterMinus || lastSign >= SIGNS - 1) {
                return false;
            }
            afterMinus = true;
            return true;
        }

        private boolean readsSlash(Clauses found) {
            if (side != 0 || !endsClause(found)) {
                return false;
            }
            side = 1;
            return true;
        }

        private boolean readsSign(int sign) {
            if (sign <= lastSign || sign >= SIGNS) {
                return false;
            }
            if (afterMinus) {
                opposites |= 1 << sign;
            } else {
                signs |= 1 << sign;
            }
            lastSign = sign;
            afterMinus = false;
            return true;
        }

        private boolean endsClause(Clauses found) {
            if (afterMinus || lastSign < 0) {
                return false;
            }
            found.append(side, signs, opposites);
            beginClause();
            return true;
        }
    }

    /** The steps of a proof, with their partial claims and which of them are needed. */
    private static final class Proof {
        private final int[] signs;
        private final int[] opposites;
        private final int[] firstParents;
        private final int[] secondParents;
        private final int[] pivots;
        private final long[] claims0;
        private final long[] claims1;
        private final boolean[] needed;
        /** By the signs of a step, as bits: the sets of opposites that steps with them have. */
        private final long[] stepsWithSigns;
        private int size;
        private boolean overfull;
        private boolean emptyClauseFound;
        private int knownToSide0;
        private int knownToSide1;

        Proof() {
            signs = new int[MOST_STEPS];
            opposites = new int[MOST_STEPS];
            firstParents = new int[MOST_STEPS];
            secondParents = new int[MOST_STEPS];
            pivots = new int[MOST_STEPS];
            claims0 = new long[MOST_STEPS];
            claims1 = new long[MOST_STEPS];
            needed = new boolean[MOST_STEPS];
            stepsWithSigns = new long[ALL_SIGNS + 1];
            size = 0;
        }

        int size() {
            return size;
        }

        boolean isKnown() {
            return !overfull;
        }

        /** Only a proof that is known can have it: the making ends with the one or the other. */
        boolean hasEmptyClause() {
            return emptyClauseFound;
        }

        boolean has(int step) {
            return step >= 0 && step < size && step < MOST_STEPS;
        }

        int signsOf(int step) {
            return has(step) ? signs[step] : 0;
        }

        int oppositesOf(int step) {
            return has(step) ? opposites[step] : 0;
        }

        int firstParentOf(int step) {
            return has(step) ? firstParents[step] : NONE;
        }

        int secondParentOf(int step) {
            return has(step) ? secondParents[step] : NONE;
        }

        int pivotOf(int step) {
            return has(step) ? pivots[step] : NONE;
        }

        boolean isNeeded(int step) {
            return has(step) && needed[step];
        }

        int neededAmong(int firstSteps) {
            int found = 0;
            for (int step = 0; step < firstSteps && step < size; step++) {
                found += asNumber(isNeeded(step));
            }
            return found;
        }

        long partialClaim(int step, int manner) {
            if (!has(step)) {
                return 0L;
            }
            return manner == 0 ? claims0[step] : claims1[step];
        }

        long middleClaim(int manner) {
            // The empty clause ends the proof, so it is the last step.
            return partialClaim(size - 1, manner);
        }

        void make(Clauses clauses) {
            size = 0;
            overfull = false;
            emptyClauseFound = false;
            knownToSide0 = clauses.signsKnownTo(0);
            knownToSide1 = clauses.signsKnownTo(1);
            for (int row = 0; row < stepsWithSigns.length; row++) {
                stepsWithSigns[row] = 0L;
            }
            for (int clause = 0; clause < clauses.size(); clause++) {
                appendClause(clauses.sideOf(clause), clauses.signsOf(clause), clauses.oppositesOf(clause));
            }
            resolveAll();
            if (emptyClauseFound) {
                markNeededSteps();
            }
        }

        private void appendClause(int side, int newSigns, int newOpposites) {
            if (side == 0) {
                int shared = knownToSide0 & knownToSide1;
                long claim1 = worldsOfLiterals(newSigns & shared, newOpposites & shared);
                appendStep(newSigns, newOpposites, NONE, NONE, NONE, 0L, claim1);
            } else {
                appendStep(newSigns, newOpposites, NONE, NONE, NONE, -1L, -1L);
            }
        }

        private void resolveAll() {
            for (int s = 0; s < size && s < MOST_STEPS; s++) {
                for (int t = 0; t < s; t++) {
                    int pivotSet = (signs[t] & opposites[s]) | (opposites[t] & signs[s]);
                    if (Integer.bitCount(pivotSet) == 1) {
                        resolve(t, s, pivotSet);
                    }
                    if (overfull || emptyClauseFound) {
                        return;
                    }
                }
            }
        }

        private void resolve(int t, int s, int pivotSet) {
            int newSigns = (signsOf(t) | signsOf(s)) & ~pivotSet;
            int newOpposites = (oppositesOf(t) | oppositesOf(s)) & ~pivotSet;
            if (isStep(newSigns, newOpposites)) {
                return;
            }
            if (size >= MOST_STEPS) {
                overfull = true;
                return;
            }
            int with = (signsOf(t) & pivotSet) != 0 ? t : s;
            int without = with == t ? s : t;
            int pivot = Integer.bitCount(pivotSet - 1);
            long claim0 = resolvedClaim(0, pivot, partialClaim(with, 0), partialClaim(without, 0));
            long claim1 = resolvedClaim(1, pivot, partialClaim(with, 1), partialClaim(without, 1));
            appendStep(newSigns, newOpposites, t, s, pivot, claim0, claim1);
            emptyClauseFound = newSigns == 0 && newOpposites == 0;
        }

        /** The claims are those of the parent that has the pivot, and the one that has its opposite. */
        private long resolvedClaim(int manner, int pivot, long claim, long claimOfOpposite) {
            if (!isIn(pivot, knownToSide1)) {
                return claim | claimOfOpposite;
            }
            if (manner == 1 || !isIn(pivot, knownToSide0)) {
                return claim & claimOfOpposite;
            }
            long pivotTrue = worldsOfSign(pivot);
            return (pivotTrue & claimOfOpposite) | (~pivotTrue & claim);
        }

        private boolean isStep(int someSigns, int someOpposites) {
            return ((stepsWithSigns[someSigns & ALL_SIGNS] >>> someOpposites) & 1L) != 0L;
        }

        private void appendStep(int newSigns, int newOpposites, int t, int s, int pivot,
                long claim0, long claim1) {
            if (size < 0 || size >= MOST_STEPS) {
                return;
            }
            signs[size] = newSigns;
            opposites[size] = newOpposites;
            firstParents[size] = t;
            secondParents[size] = s;
            pivots[size] = pivot;
            claims0[size] = claim0;
            claims1[size] = claim1;
            needed[size] = false;
            stepsWithSigns[newSigns & ALL_SIGNS] |= 1L << newOpposites;
            size++;
        }

        private void markNeededSteps() {
            markNeeded(size - 1);
            // Parents are ahead of their child, so whatever is needed is marked when it is met.
            for (int step = size - 1; step >= 0; step--) {
                if (isNeeded(step)) {
                    markNeeded(firstParentOf(step));
                    markNeeded(secondParentOf(step));
                }
            }
        }

        private void markNeeded(int step) {
            if (has(step)) {
                needed[step] = true;
            }
        }
    }
}
