/**
 * A desk for questions about clauses over truths and differences of ints: is there a model, what
 * holds in all models, how great a difference can be, how many patterns of truth there are.
 *
 * <p>A pattern is an int with the bit 1 << a for each atom a that is yes: the truths are its lowest
 * five bits, the differences the bits above them.
 */
public final class DifferenceDesk {
    public static final int REFUSED = -1, FULL = -2;
    public static final long NONE = 3000000000L, UNBOUNDED = 3000000001L;

    private static final int NO_LITERAL = -1, NO_PATTERN = -1;
    private static final int TRUTHS = 5, TRUTH_PATTERNS = 32;
    private static final int MOST_DIFFERENCES = 5, MOST_PATTERNS = 1024, MOST_LITERALS = 20;
    private static final int MOST_CLAUSES = 24, MOST_LEVEL = 4;
    private static final int VARIABLES = 5, VARIABLE_PAIRS = 25;
    private static final int WIDEST = 1000, DEAREST = 1000;

    // No bound comes near it: they start within 1001 of 0, and each of the five rounds of tightening
    // takes them at most six times as far, also where no integers are left.
    private static final int NO_BOUND = 1000000000;

    private final int[] left = new int[MOST_DIFFERENCES];
    private final int[] right = new int[MOST_DIFFERENCES];
    private final int[] limit = new int[MOST_DIFFERENCES];
    private int differences = 0;

    // A clause holds if an atom of its yes bits is yes, or one of its no bits is no.
    private final int[] yesBits = new int[MOST_CLAUSES];
    private final int[] noBits = new int[MOST_CLAUSES];
    private int clauses = 0;

    private final int[] differencesBefore = new int[MOST_LEVEL];
    private final int[] clausesBefore = new int[MOST_LEVEL];
    private int level = 0;

    private final int[] prices = new int[MOST_LITERALS];

    // Room to work in: what it holds between two calls has no meaning.
    private final boolean[] possible = new boolean[MOST_PATTERNS];
    private final int[] bounds = new int[VARIABLE_PAIRS];

    public DifferenceDesk() {
    }

    public int difference(int i, int j, int c) {
        if (!areTwoVariables(i, j) || c < -WIDEST || c > WIDEST) {
            return REFUSED;
        }
        if (differences == MOST_DIFFERENCES) {
            return FULL;
        }
        int atom = TRUTHS + differences;
        left[differences] = i;
        right[differences] = j;
        limit[differences] = c;
        // The atom's number may have borne prices before a pop.
        prices[2 * atom] = 0;
        prices[2 * atom + 1] = 0;
        differences++;
        return atom;
    }

    public int clause(int a, int b, int c, int d) {
        if (!mayBeGiven(a) || !mayBeGiven(b) || !mayBeGiven(c) || !mayBeGiven(d)) {
            return REFUSED;
        }
        if (clauses == MOST_CLAUSES) {
            return FULL;
        }
        yesBits[clauses] = yesBit(a) | yesBit(b) | yesBit(c) | yesBit(d);
        noBits[clauses] = noBit(a) | noBit(b) | noBit(c) | noBit(d);
        clauses++;
        return clauses;
    }

    public int push() {
        if (level == MOST_LEVEL) {
            return FULL;
        }
        differencesBefore[level] = differences;
        clausesBefore[level] = clauses;
        level++;
        return level;
    }

    public int pop() {
        if (level == 0) {
            return REFUSED;
        }
        level--;
        differences = differencesBefore[level];
        clauses = clausesBefore[level];
        return level;
    }

    public int check(int a, int b, int c) {
        if (!mayBeGiven(a) || !mayBeGiven(b) || !mayBeGiven(c)) {
            return REFUSED;
        }
        int yes = yesBit(a) | yesBit(b) | yesBit(c);
        int no = noBit(a) | noBit(b) | noBit(c);
        return hasModelWith(yes, no) ? 1 : 0;
    }

    public int implied(int literal) {
        if (!isLiteral(literal)) {
            return REFUSED;
        }
        // It holds in all models just if none has it the other way round.
        int yes = noBit(literal);
        int no = yesBit(literal);
        return hasModelWith(yes, no) ? 0 : 1;
    }

    public long greatest(int i, int j) {
        if (!areTwoVariables(i, j)) {
            return NONE;
        }
        markPossible();
        int count = differencePatternCount();
        long best = NONE;
        for (int chosen = 0; chosen < count; chosen++) {
            if (!isPossibleWithSomeTruths(chosen)) {
                continue;
            }
            tightenBounds(chosen);
            int bound = bounds[i * VARIABLES + j];
            if (bound == NO_BOUND) {
                return UNBOUNDED;
            }
            if (best == NONE || bound > best) {
                best = bound;
            }
        }
        return best;
    }

    public int patterns() {
        markPossible();
        int count = patternCount();
        int found = 0;
        for (int pattern = 0; pattern < count; pattern++) {
            if (possible[pattern]) {
                found++;
            }
        }
        return found;
    }

    public int settled() {
        markPossible();
        int count = patternCount();
        int alwaysYes = count - 1;
        int alwaysNo = count - 1;
        boolean found = false;
        for (int pattern = 0; pattern < count; pattern++) {
            if (possible[pattern]) {
                alwaysYes &= pattern;
                alwaysNo &= ~pattern;
                found = true;
            }
        }
        return found ? bitsIn(alwaysYes | alwaysNo) : 0;
    }

    public int price(int literal, int p) {
        if (!isLiteral(literal) || p < 0 || p > DEAREST) {
            return REFUSED;
        }
        int old = prices[literal];
        prices[literal] = p;
        return old;
    }

    public long cheapest() {
        markPossible();
        return leastCost();
    }

    public int first() {
        markPossible();
        return firstThatCostsAtMost(NONE);
    }

    public int firstCheapest() {
        markPossible();
        long least = leastCost();
        return firstThatCostsAtMost(least);
    }

    public int size() {
        return differences + 8 * clauses + 256 * level;
    }

    private boolean areTwoVariables(int i, int j) {
        return i >= 0 && i < VARIABLES && j >= 0 && j < VARIABLES && i != j;
    }

    private int atomCount() {
        return TRUTHS + differences;
    }

    private int patternCount() {
        return 1 << atomCount();
    }

    private int differencePatternCount() {
        return 1 << differences;
    }

    private boolean isLiteral(int literal) {
        return literal >= 0 && literal < 2 * atomCount();
    }

    private boolean mayBeGiven(int literal) {
        return literal == NO_LITERAL || isLiteral(literal);
    }

    private int yesBit(int literal) {
        return literal >= 0 && literal % 2 == 0 ? 1 << literal / 2 : 0;
    }

    private int noBit(int literal) {
        return literal >= 0 && literal % 2 == 1 ? 1 << literal / 2 : 0;
    }

    private int bitsIn(int pattern) {
        int found = 0;
        for (int atom = 0; atom < TRUTHS + MOST_DIFFERENCES; atom++) {
            found += pattern >> atom & 1;
        }
        return found;
    }

    /** Leaves in possible, for each pattern of the atoms that are there, whether it is possible. */
    private void markPossible() {
        int count = differencePatternCount();
        for (int chosen = 0; chosen < count; chosen++) {
            boolean hasIntegers = tightenBounds(chosen);
            for (int truths = 0; truths < TRUTH_PATTERNS; truths++) {
                int pattern = chosen << TRUTHS | truths;
                possible[pattern] = hasIntegers && allClausesHold(pattern);
            }
        }
    }

    private boolean allClausesHold(int pattern) {
        for (int at = 0; at < clauses; at++) {
            if ((pattern & yesBits[at]) == 0 && (~pattern & noBits[at]) == 0) {
                return false;
            }
        }
        return true;
    }

    /**
     * Whether there are integers for which just the chosen differences hold (bit d for the one of
     * atom TRUTHS + d). If so, bounds then has the greatest x_i - x_j at i * VARIABLES + j.
     */
    private boolean tightenBounds(int chosen) {
        clearBounds();
        for (int d = 0; d < differences; d++) {
            if ((chosen >> d & 1) == 1) {
                lowerBound(left[d], right[d], limit[d]);
            } else {
                // Over integers, x_i - x_j > c says the same as x_j - x_i <= -c - 1.
                lowerBound(right[d], left[d], -limit[d] - 1);
            }
        }
        for (int via = 0; via < VARIABLES; via++) {
            tightenBoundsVia(via);
        }
        return !isAnyVariableBelowItself();
    }

    private void clearBounds() {
        for (int i = 0; i < VARIABLES; i++) {
            for (int j = 0; j < VARIABLES; j++) {
                bounds[i * VARIABLES + j] = i == j ? 0 : NO_BOUND;
            }
        }
    }

    private void lowerBound(int i, int j, int bound) {
        int at = i * VARIABLES + j;
        if (bound < bounds[at]) {
            bounds[at] = bound;
        }
    }

    private void tightenBoundsVia(int via) {
        for (int i = 0; i < VARIABLES; i++) {
            for (int j = 0; j < VARIABLES; j++) {
                int before = bounds[i * VARIABLES + via];
                int after = bounds[via * VARIABLES + j];
                if (before != NO_BOUND && after != NO_BOUND) {
                    lowerBound(i, j, before + after);
                }
            }
        }
    }

    private boolean isAnyVariableBelowItself() {
        for (int i = 0; i < VARIABLES; i++) {
            if (bounds[i * VARIABLES + i] < 0) {
                return true;
            }
        }
        return false;
    }

    private boolean hasModelWith(int yes, int no) {
        markPossible();
        int count = patternCount();
        for (int pattern = 0; pattern < count; pattern++) {
            if (possible[pattern] && (pattern & yes) == yes && (pattern & no) == 0) {
                return true;
            }
        }
        return false;
    }

    /** Relies on markPossible. */
    private boolean isPossibleWithSomeTruths(int chosen) {
        for (int truths = 0; truths < TRUTH_PATTERNS; truths++) {
            if (possible[chosen << TRUTHS | truths]) {
                return true;
            }
        }
        return false;
    }

    private long costOf(int pattern) {
        int count = atomCount();
        long cost = 0;
        for (int atom = 0; atom < count; atom++) {
            boolean isYes = (pattern >> atom & 1) == 1;
            cost += isYes ? prices[2 * atom] : prices[2 * atom + 1];
        }
        return cost;
    }

    /** Relies on markPossible; NONE, which is above every cost, if no pattern is possible. */
    private long leastCost() {
        int count = patternCount();
        long least = NONE;
        for (int pattern = 0; pattern < count; pattern++) {
            if (possible[pattern]) {
                long cost = costOf(pattern);
                least = cost < least ? cost : least;
            }
        }
        return least;
    }

    /** Relies on markPossible. */
    private int firstThatCostsAtMost(long most) {
        int count = patternCount();
        int best = NO_PATTERN;
        for (int pattern = 0; pattern < count; pattern++) {
            if (possible[pattern] && costOf(pattern) <= most) {
                if (best == NO_PATTERN || comesBefore(pattern, best)) {
                    best = pattern;
                }
            }
        }
        return best;
    }

    private boolean comesBefore(int one, int other) {
        // Atom 0 counts most, so the lowest bit in which they differ decides.
        int unlike = one ^ other;
        int decisive = unlike & -unlike;
        return (one & decisive) == 0;
    }
}
