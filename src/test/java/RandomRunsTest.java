import java.util.ArrayDeque;
import java.util.ArrayList;
import java.util.Arrays;
import java.util.Deque;
import java.util.HashMap;
import java.util.List;
import java.util.Map;

// Long runs of calls, each answer held against a second, plain reading of the document. The calls
// come from a fixed sequence, so that every run of this test is the same.
public final class RandomRunsTest {
    private static final long NONE = 3000000000L, UNBOUNDED = 3000000001L;
    private static final int SHORT_RUNS = 600, LONG_RUNS = 60, MOST_CALLS = 512, MOST_SHOWN = 20;

    private static int wrong = 0;
    private static long seed = 20261115;

    private static int below(int bound) {
        seed = seed * 6364136223846793005L + 1442695040888963407L;
        return (int) ((seed >>> 33) % bound);
    }

    public static void main(String[] args) {
        for (int run = 0; run < SHORT_RUNS + LONG_RUNS; run++) {
            boolean isShort = run < SHORT_RUNS;
            // Trying integers is the plainer reading but can only be done for small limits.
            boolean isSmall = run % 15 == 0;
            int widest = isSmall ? 1 : run % 3 == 0 ? 1000 : 3 + run % 20;
            int calls = isShort ? 20 + below(80) : MOST_CALLS;
            runCalls(run, calls, new Reading(isSmall), widest);
        }
        System.out.println(wrong == 0 ? "all answers are as due" : wrong + " answers are not as due");
        if (wrong != 0) {
            System.exit(1);
        }
    }

    private static void runCalls(int run, int calls, Reading due, int widest) {
        DifferenceDesk desk = new DifferenceDesk();
        StringBuilder told = new StringBuilder();
        for (int n = 0; n < calls; n++) {
            int[] a = {literal(due), literal(due), literal(due), literal(due)};
            int i = variable();
            int j = variable();
            int c = below(40) == 0 ? 1001 - 2002 * below(2) : below(2 * widest + 1) - widest;
            int p = below(30) == 0 ? 1001 - 1002 * below(2) : below(3) == 0 ? below(1001) : below(4);
            String call;
            long got;
            long want;
            switch (below(20)) {
                case 0, 1 -> {
                    call = "difference(" + i + ", " + j + ", " + c + ")";
                    got = desk.difference(i, j, c);
                    want = due.difference(i, j, c);
                }
                case 2, 3, 4 -> {
                    call = "clause(" + a[0] + ", " + a[1] + ", " + a[2] + ", " + a[3] + ")";
                    got = desk.clause(a[0], a[1], a[2], a[3]);
                    want = due.clause(a);
                }
                case 5 -> {
                    call = "push()";
                    got = desk.push();
                    want = due.push();
                }
                case 6 -> {
                    call = "pop()";
                    got = desk.pop();
                    want = due.pop();
                }
                case 7, 8 -> {
                    call = "check(" + a[0] + ", " + a[1] + ", " + a[2] + ")";
                    got = desk.check(a[0], a[1], a[2]);
                    want = due.check(a[0], a[1], a[2]);
                }
                case 9 -> {
                    call = "implied(" + a[0] + ")";
                    got = desk.implied(a[0]);
                    want = due.implied(a[0]);
                }
                case 10, 11, 12 -> {
                    call = "greatest(" + i + ", " + j + ")";
                    got = desk.greatest(i, j);
                    want = due.greatest(i, j);
                }
                case 13 -> {
                    call = "patterns()";
                    got = desk.patterns();
                    want = due.possible().size();
                }
                case 14 -> {
                    call = "settled()";
                    got = desk.settled();
                    want = due.settled();
                }
                case 15, 16 -> {
                    call = "price(" + a[0] + ", " + p + ")";
                    got = desk.price(a[0], p);
                    want = due.price(a[0], p);
                }
                case 17 -> {
                    call = "cheapest()";
                    got = desk.cheapest();
                    want = due.cheapest();
                }
                case 18 -> {
                    boolean isCheapest = below(2) == 0;
                    call = isCheapest ? "firstCheapest()" : "first()";
                    got = isCheapest ? desk.firstCheapest() : desk.first();
                    want = due.first(isCheapest);
                }
                default -> {
                    call = "size()";
                    got = desk.size();
                    want = due.size();
                }
            }
            told.append("\n  ").append(call).append(" -> ").append(got);
            if (got != want) {
                wrong++;
                if (wrong <= MOST_SHOWN) {
                    System.out.println("run " + run + ", due at the end is " + want + told);
                }
                return;
            }
        }
    }

    private static int variable() {
        return below(40) == 0 ? 5 - 6 * below(2) : below(5);
    }

    private static int literal(Reading due) {
        int atoms = 5 + due.differences.size();
        int kind = below(60);
        if (kind == 0) {
            return 2 * atoms + below(3);
        }
        if (kind == 1) {
            return -2;
        }
        if (kind < 16) {
            return -1;
        }
        boolean isOfDifference = atoms > 5 && below(2) == 0;
        int atom = isOfDifference ? 5 + below(atoms - 5) : below(5);
        return 2 * atom + below(2);
    }

    /** What the document says, held in lists and asked by going through everything. */
    private static final class Reading {
        private static final int REACH = 16, WITHIN = 8;

        private final boolean triesIntegers;
        private List<int[]> differences = new ArrayList<>();
        private List<int[]> clauses = new ArrayList<>();
        private final Deque<List<int[]>> saved = new ArrayDeque<>();
        private final int[] prices = new int[20];
        // What was found for the differences and clauses as they are; null if they have changed.
        private Map<Integer, long[]> greatestOf = null;
        private List<Integer> possible = null;

        Reading(boolean triesIntegers) {
            this.triesIntegers = triesIntegers;
        }

        int difference(int i, int j, int c) {
            if (i < 0 || i > 4 || j < 0 || j > 4 || i == j || c < -1000 || c > 1000) {
                return -1;
            }
            if (differences.size() == 5) {
                return -2;
            }
            differences.add(new int[] {i, j, c});
            greatestOf = null;
            possible = null;
            int atom = 4 + differences.size();
            prices[2 * atom] = 0;
            prices[2 * atom + 1] = 0;
            return atom;
        }

        int clause(int[] literals) {
            for (int literal : literals) {
                if (literal != -1 && !isLiteral(literal)) {
                    return -1;
                }
            }
            if (clauses.size() == 24) {
                return -2;
            }
            clauses.add(literals);
            possible = null;
            return clauses.size();
        }

        int push() {
            if (level() == 4) {
                return -2;
            }
            saved.push(new ArrayList<>(differences));
            saved.push(new ArrayList<>(clauses));
            return level();
        }

        int pop() {
            if (level() == 0) {
                return -1;
            }
            clauses = saved.pop();
            differences = saved.pop();
            greatestOf = null;
            possible = null;
            return level();
        }

        int check(int a, int b, int c) {
            int[] asked = {a, b, c};
            for (int literal : asked) {
                if (literal != -1 && !isLiteral(literal)) {
                    return -1;
                }
            }
            for (int pattern : possible()) {
                boolean allHold = true;
                for (int literal : asked) {
                    allHold &= literal == -1 || holds(literal, pattern);
                }
                if (allHold) {
                    return 1;
                }
            }
            return 0;
        }

        int implied(int literal) {
            if (!isLiteral(literal)) {
                return -1;
            }
            for (int pattern : possible()) {
                if (!holds(literal, pattern)) {
                    return 0;
                }
            }
            return 1;
        }

        long greatest(int i, int j) {
            if (i < 0 || i > 4 || j < 0 || j > 4 || i == j || possible().isEmpty()) {
                return NONE;
            }
            long best = Long.MIN_VALUE;
            for (int pattern : possible()) {
                best = Math.max(best, greatestOf().get(pattern >> 5)[5 * i + j]);
            }
            return best;
        }

        int settled() {
            int count = 0;
            for (int atom = 0; atom < 5 + differences.size(); atom++) {
                if (!possible().isEmpty() && (implied(2 * atom) == 1 || implied(2 * atom + 1) == 1)) {
                    count++;
                }
            }
            return count;
        }

        int price(int literal, int p) {
            if (!isLiteral(literal) || p < 0 || p > 1000) {
                return -1;
            }
            int old = prices[literal];
            prices[literal] = p;
            return old;
        }

        long cheapest() {
            long least = NONE;
            for (int pattern : possible()) {
                least = Math.min(least, cost(pattern));
            }
            return least;
        }

        int first(boolean ofTheCheapest) {
            long least = cheapest();
            int best = -1;
            int bestRank = Integer.MAX_VALUE;
            for (int pattern : possible()) {
                // Of the ten atoms, atom 0 comes to be the highest bit.
                int rank = Integer.reverse(pattern) >>> 22;
                if ((!ofTheCheapest || cost(pattern) == least) && rank < bestRank) {
                    best = pattern;
                    bestRank = rank;
                }
            }
            return best;
        }

        int size() {
            return differences.size() + 8 * clauses.size() + 256 * level();
        }

        List<Integer> possible() {
            if (possible == null) {
                possible = findPossible();
            }
            return possible;
        }

        private List<Integer> findPossible() {
            List<Integer> found = new ArrayList<>();
            for (int pattern = 0; pattern < 1 << 5 + differences.size(); pattern++) {
                boolean isPossible = greatestOf().containsKey(pattern >> 5);
                for (int[] clause : clauses) {
                    boolean oneHolds = false;
                    for (int literal : clause) {
                        oneHolds |= literal != -1 && holds(literal, pattern);
                    }
                    isPossible &= oneHolds;
                }
                if (isPossible) {
                    found.add(pattern);
                }
            }
            return found;
        }

        private int level() {
            return saved.size() / 2;
        }

        private boolean isLiteral(int literal) {
            return literal >= 0 && literal < 10 + 2 * differences.size();
        }

        private boolean holds(int literal, int pattern) {
            boolean isYes = (pattern >> literal / 2) % 2 == 1;
            return isYes == (literal % 2 == 0);
        }

        private long cost(int pattern) {
            long cost = 0;
            for (int literal = 0; literal < 10 + 2 * differences.size(); literal++) {
                cost += holds(literal, pattern) ? prices[literal] : 0;
            }
            return cost;
        }

        /** For each choice of differences that integers can meet, the greatest x_i - x_j. */
        private Map<Integer, long[]> greatestOf() {
            if (greatestOf == null) {
                greatestOf = triesIntegers ? tryIntegers() : tryWays();
            }
            return greatestOf;
        }

        /**
         * For limits of -1 .. 1. Each difference then says that one x is at most 1 above, or at
         * least 0 .. 2 below another, so a greatest value lies within 8 of 0, and 16 integers in a
         * row are enough to show one, or a value of 9 where there is none.
         */
        private Map<Integer, long[]> tryIntegers() {
            Map<Integer, long[]> found = new HashMap<>();
            int[] x = new int[5];
            for (int point = 0; point < REACH * REACH * REACH * REACH * REACH; point++) {
                int rest = point;
                for (int v = 0; v < 5; v++) {
                    x[v] = rest % REACH;
                    rest /= REACH;
                }
                // The others only move such a point as a whole.
                if (x[0] > 0 && x[1] > 0 && x[2] > 0 && x[3] > 0 && x[4] > 0) {
                    continue;
                }
                int chosen = 0;
                for (int d = 0; d < differences.size(); d++) {
                    int[] of = differences.get(d);
                    chosen |= x[of[0]] - x[of[1]] <= of[2] ? 1 << d : 0;
                }
                long[] greatest = found.computeIfAbsent(chosen, key -> lowest());
                for (int pair = 0; pair < 25; pair++) {
                    long value = x[pair / 5] - x[pair % 5];
                    greatest[pair] = Math.max(greatest[pair], value > WITHIN ? UNBOUNDED : value);
                }
            }
            return found;
        }

        private static long[] lowest() {
            long[] all = new long[25];
            Arrays.fill(all, Long.MIN_VALUE);
            return all;
        }

        /** For all limits: the least sum on a way that comes to no variable twice. */
        private Map<Integer, long[]> tryWays() {
            Map<Integer, long[]> found = new HashMap<>();
            for (int chosen = 0; chosen < 1 << differences.size(); chosen++) {
                long[] least = new long[25];
                Arrays.fill(least, UNBOUNDED);
                for (int start = 0; start < 5; start++) {
                    walk(chosen, start, start, 0, 0, least);
                }
                boolean isMet = true;
                for (int v = 0; v < 5; v++) {
                    isMet &= least[6 * v] >= 0;
                }
                if (isMet) {
                    found.put(chosen, least);
                }
            }
            return found;
        }

        private void walk(int chosen, int start, int at, int seen, long sum, long[] least) {
            for (int d = 0; d < differences.size(); d++) {
                int[] of = differences.get(d);
                boolean isYes = (chosen >> d) % 2 == 1;
                int from = isYes ? of[0] : of[1];
                int to = isYes ? of[1] : of[0];
                long next = sum + (isYes ? of[2] : -1 - of[2]);
                if (from != at || (seen >> to) % 2 == 1) {
                    continue;
                }
                least[5 * start + to] = Math.min(least[5 * start + to], next);
                if (to != start) {
                    walk(chosen, start, to, seen | 1 << to, next, least);
                }
            }
        }
    }
}
