// One test for each sentence of the document that names a boundary case (too small, too large,
// empty, full, a wrap-around, a refused call). A test begins with the sentence it is for, and a
// wrong answer is printed below that sentence.
public final class BoundariesTest {
    private static final int REFUSED = -1, FULL = -2;
    private static final long NONE = 3000000000L, UNBOUNDED = 3000000001L;
    private static final int LEAST = Integer.MIN_VALUE, MOST = Integer.MAX_VALUE;

    // 256 and 65536 are 0 for a program that keeps them in a byte or a short.
    private static final int[] NO_VARIABLE =
        {-1, -2, -256, LEAST, LEAST + 1, 5, 6, 256, 65536, MOST};
    // LEAST is its own negative, so a test of the size without the sign lets it through.
    private static final int[] NO_LIMIT =
        {-1001, -1002, -65536, LEAST, LEAST + 1, 1001, 1002, 65536, MOST};
    private static final int[] NO_PRICE =
        {-1, -2, -65536, LEAST, LEAST + 1, 1001, 1002, 65536, MOST};
    private static final int[] BELOW_LITERALS = {-2, -3, -4, -20, -64, LEAST, LEAST + 1};
    // 1 << 32 is 1 << 0, so the atoms 32 and 33 may pass for 0 and 1.
    private static final int[] ABOVE_LITERALS =
        {20, 21, 22, 64, 65, 66, 256, 65536, MOST - 1, MOST};

    private static String sentence = "";
    private static boolean isSentencePrinted = false;
    private static int sentences = 0;
    private static int wrong = 0;

    private static void says(String words) {
        sentence = words;
        isSentencePrinted = false;
        sentences++;
    }

    private static void complain(String what) {
        if (!isSentencePrinted) {
            System.out.println(sentence);
            isSentencePrinted = true;
        }
        System.out.println("    " + what);
        wrong++;
    }

    private static void due(String call, long got, long want) {
        if (got != want) {
            complain(call + " answered " + got + ", due is " + want);
        }
    }

    public static void main(String[] args) {
        try {
            askAll();
        } catch (RuntimeException thrown) {
            complain("a call threw " + thrown);
        }
        if (wrong != 0) {
            System.out.println(wrong + " answers are not as due");
            System.exit(1);
        }
        System.out.println(sentences + " sentences hold at their boundaries");
    }

    private static void askAll() {
        whatItIs();
        termsOfAtoms();
        termsOfClauses();
        termsOfPatterns();
        termsOfPrices();
        termsOfLevels();
        newObject();
        difference();
        clause();
        pushAndPop();
        check();
        implied();
        greatest();
        patterns();
        settled();
        price();
        cheapest();
        first();
        firstCheapest();
        size();
        orderAndLimits();
    }

    // ---- Desks to ask, and ways to ask them. A desk stays within its 512 calls everywhere.

    private static void say(DifferenceDesk x, int literal) {
        x.clause(literal, -1, -1, -1);
    }

    /** x0 - x1 <= 0, <= 1, and so on, the weaker the later. */
    private static DifferenceDesk withSteps(int count) {
        DifferenceDesk x = new DifferenceDesk();
        for (int n = 0; n < count; n++) {
            x.difference(0, 1, n);
        }
        return x;
    }

    private static DifferenceDesk withoutModel() {
        DifferenceDesk x = new DifferenceDesk();
        x.clause(-1, -1, -1, -1);
        return x;
    }

    private static DifferenceDesk withoutIntegers() {
        DifferenceDesk x = new DifferenceDesk();
        x.difference(0, 1, -1);
        x.difference(1, 0, 0);
        say(x, 10);
        say(x, 12);
        return x;
    }

    /** One that has something of everything, at level 1. */
    private static DifferenceDesk busy() {
        DifferenceDesk x = new DifferenceDesk();
        x.difference(0, 1, 3);
        x.clause(10, 0, -1, -1);
        x.price(1, 7);
        x.price(10, 9);
        x.price(11, 4);
        x.push();
        x.difference(1, 2, -4);
        x.clause(12, 3, -1, -1);
        x.price(12, 2);
        x.price(13, 5);
        return x;
    }

    private static DifferenceDesk busyWithAllDifferences() {
        DifferenceDesk x = busy();
        for (int n = 2; n < 5; n++) {
            x.difference(n, (n + 1) % 5, 2 * n);
            x.price(10 + 2 * n, 10 + n);
            x.price(11 + 2 * n, 20 + n);
        }
        return x;
    }

    private static DifferenceDesk busyWithAllClauses() {
        DifferenceDesk x = busy();
        for (int n = 2; n < 23; n++) {
            x.clause(10, n % 10, 5, -1);
        }
        // The others leave room for this one, so that it shows if it changes.
        x.clause(6, 11, -1, -1);
        return x;
    }

    /** All that a desk shows; it takes at most 86 calls and leaves the desk as it was. */
    private static String portrait(DifferenceDesk x) {
        int size = x.size();
        StringBuilder seen = new StringBuilder();
        seen.append("size ").append(size).append(", patterns ").append(x.patterns());
        seen.append(", settled ").append(x.settled()).append(", cheapest ").append(x.cheapest());
        seen.append(", first ").append(x.first());
        seen.append(", firstCheapest ").append(x.firstCheapest()).append(", literals");
        for (int literal = 0; literal < 10 + 2 * (size % 8); literal++) {
            int price = x.price(literal, 0);
            x.price(literal, price);
            seen.append(' ').append(x.implied(literal)).append(" at ").append(price);
        }
        seen.append(", greatest");
        for (int i = 0; i < 5; i++) {
            for (int j = 0; j < 5; j++) {
                seen.append(i == j ? "" : " " + x.greatest(i, j));
            }
        }
        return seen.toString();
    }

    /** That x shows what its twin does, which was not called in vain, and goes on as it does. */
    private static void dueAsTwin(DifferenceDesk x, DifferenceDesk twin) {
        dueSamePortrait("at once", x, twin);
        due("difference(4, 2, 6), next", x.difference(4, 2, 6), twin.difference(4, 2, 6));
        due("clause(3, 8, 10, -1), next", x.clause(3, 8, 10, -1), twin.clause(3, 8, 10, -1));
        dueSamePortrait("after the next difference and clause", x, twin);
        due("pop(), next", x.pop(), twin.pop());
        dueSamePortrait("after a pop", x, twin);
    }

    private static void dueSamePortrait(String when, DifferenceDesk x, DifferenceDesk twin) {
        String got = portrait(x);
        String want = portrait(twin);
        if (!got.equals(want)) {
            complain("something changed, seen " + when + ": " + got + "; due is " + want);
        }
    }

    // ---- What it is

    private static void whatItIs() {
        says("What it is: An object is used for at most 512 calls after it has been made");
        due("difference as call 512", after511Calls().difference(1, 2, 0), 6);
        due("clause as call 512", after511Calls().clause(0, -1, -1, -1), 2);
        due("push as call 512", after511Calls().push(), 1);
        due("pop as call 512", after511Calls().pop(), REFUSED);
        due("check as call 512", after511Calls().check(11, -1, -1), 0);
        due("implied as call 512", after511Calls().implied(10), 1);
        due("greatest as call 512", after511Calls().greatest(0, 1), 5);
        due("patterns as call 512", after511Calls().patterns(), 32);
        due("settled as call 512", after511Calls().settled(), 1);
        due("price as call 512", after511Calls().price(10, 1), 7);
        due("cheapest as call 512", after511Calls().cheapest(), 7);
        due("first as call 512", after511Calls().first(), 32);
        due("firstCheapest as call 512", after511Calls().firstCheapest(), 32);
        due("size as call 512", after511Calls().size(), 9);
    }

    private static DifferenceDesk after511Calls() {
        DifferenceDesk x = new DifferenceDesk();
        x.difference(0, 1, 5);
        say(x, 10);
        x.price(10, 7);
        for (int n = 0; n < 254; n++) {
            x.push();
            x.pop();
        }
        return x;
    }

    // ---- Terms

    private static void termsOfAtoms() {
        says("Terms: VARIABLES x0 .. x4 are integers without bounds");
        DifferenceDesk x = new DifferenceDesk();
        for (int i = 0; i < 5; i++) {
            for (int j = 0; j < 5; j++) {
                due("greatest(" + i + ", " + j + ")", x.greatest(i, j), i == j ? NONE : UNBOUNDED);
            }
        }
        x.difference(0, 1, 0);
        x.difference(1, 0, -1);
        due("check, 0 < x0 - x1 < 1", x.check(11, 13, -1), 0);

        says("Terms: ATOMS: 0 .. 4 are truths, which may be yes or no");
        x = new DifferenceDesk();
        for (int literal = 0; literal < 10; literal++) {
            due("check(" + literal + ", -1, -1)", x.check(literal, -1, -1), 1);
            due("implied(" + literal + ")", x.implied(literal), 0);
        }
        due("check(10, -1, -1), atom 5 is no truth", x.check(10, -1, -1), REFUSED);

        says("Terms: from 5 on up to five DIFFERENCES");
        x = withSteps(5);
        due("implied(18), of atom 9", x.implied(18), 0);
        due("difference(0, 1, 5), a sixth", x.difference(0, 1, 5), FULL);
        due("implied(20), of atom 10", x.implied(20), REFUSED);

        says("Terms: it says x_i - x_j <= c");
        for (int c : new int[] {-1000, -1, 0, 1, 1000}) {
            saysAtMost(c);
        }

        says("Terms: A LITERAL is 2 * atom (the atom holds) or 2 * atom + 1 (it does not)");
        for (int differences = 0; differences <= 5; differences++) {
            x = withSteps(differences);
            int end = 10 + 2 * differences;
            due("implied(-1)", x.implied(-1), REFUSED);
            due("implied(0), the least literal", x.implied(0), 0);
            due("implied(" + (end - 1) + "), the greatest literal", x.implied(end - 1), 0);
            due("implied(" + end + ")", x.implied(end), REFUSED);
            due("check of an atom both ways", x.check(end - 2, end - 1, -1), 0);
        }
    }

    private static void saysAtMost(int c) {
        DifferenceDesk holds = new DifferenceDesk();
        holds.difference(2, 3, c);
        say(holds, 10);
        due("greatest(2, 3), it holds with c = " + c, holds.greatest(2, 3), c);
        due("greatest(3, 2), it holds with c = " + c, holds.greatest(3, 2), UNBOUNDED);
        DifferenceDesk fails = new DifferenceDesk();
        fails.difference(2, 3, c);
        say(fails, 11);
        due("greatest(3, 2), it fails with c = " + c, fails.greatest(3, 2), -c - 1);
        due("greatest(2, 3), it fails with c = " + c, fails.greatest(2, 3), UNBOUNDED);
    }

    private static void termsOfClauses() {
        says("Terms: A CLAUSE is a list of up to 4 literals");
        int[] patternsLeft = {0, 16, 24, 28, 30};
        for (int count = 0; count <= 4; count++) {
            DifferenceDesk x = new DifferenceDesk();
            x.clause(count > 0 ? 0 : -1, count > 1 ? 2 : -1,
                count > 2 ? 4 : -1, count > 3 ? 6 : -1);
            due("patterns(), a clause of " + count, x.patterns(), patternsLeft[count]);
        }

        says("Terms: it holds if one of them at least does");
        DifferenceDesk x = new DifferenceDesk();
        x.clause(0, 2, 4, 6);
        for (int pattern = 0; pattern < 16; pattern++) {
            x.push();
            for (int atom = 0; atom < 4; atom++) {
                say(x, 2 * atom + 1 - (pattern >> atom & 1));
            }
            int holds = pattern == 0 ? 0 : 1;
            due("check, yes for the atoms of " + pattern, x.check(-1, -1, -1), holds);
            x.pop();
        }

        says("Terms: (one without literals never holds)");
        due("patterns(), an empty clause alone", withoutModel().patterns(), 0);
        x = new DifferenceDesk();
        say(x, 0);
        due("clause(-1, -1, -1, -1)", x.clause(-1, -1, -1, -1), 2);
        say(x, 0);
        due("patterns(), an empty clause among others", x.patterns(), 0);

        says("Terms: At most 24 clauses");
        x = new DifferenceDesk();
        for (int n = 1; n <= 24; n++) {
            due("clause " + n, x.clause(0, 1, -1, -1), n);
        }
        due("clause 25", x.clause(0, 1, -1, -1), FULL);
    }

    private static void termsOfPatterns() {
        says("Terms: A PATTERN says yes or no for the five truths and every difference made");
        for (int differences = 0; differences <= 5; differences++) {
            DifferenceDesk x = withSteps(differences);
            int all = (1 << 5 + differences) - 1;
            for (int atom = 0; atom < 5; atom++) {
                say(x, 2 * atom);
            }
            due("first(), all truths yes, all differences no", x.first(), 31);
            due("patterns(), one for each step", x.patterns(), differences + 1);
            if (differences > 0) {
                say(x, 10);
            }
            due("first(), all atoms yes", x.first(), all);
        }

        says("Terms: it is POSSIBLE if all clauses hold");
        DifferenceDesk x = new DifferenceDesk();
        due("patterns(), no clauses", x.patterns(), 32);
        say(x, 0);
        for (int n = 2; n < 24; n++) {
            x.clause(2, 3, -1, -1);
        }
        say(x, 9);
        due("patterns(), the clauses 1 and 24 count", x.patterns(), 8);
        due("implied(0), by clause 1", x.implied(0), 1);
        due("implied(9), by clause 24", x.implied(9), 1);

        says("Terms: there are integers x0 .. x4 for which just those differences hold"
            + " for which it says yes");
        x = new DifferenceDesk();
        x.difference(0, 1, 2);
        x.difference(1, 0, -3);
        due("check, both <= 2 and >= 3", x.check(10, 12, -1), 0);
        due("check, neither <= 2 nor >= 3", x.check(11, 13, -1), 0);
        due("patterns(), one of the two holds", x.patterns(), 64);
        x.difference(1, 0, -2);
        due("check, <= 2 and >= 2", x.check(10, 14, -1), 1);
        due("check, >= 3, not >= 2", x.check(12, 15, -1), 0);
        roundOfFive();
    }

    private static void roundOfFive() {
        for (int last = -1; last <= 0; last++) {
            DifferenceDesk x = new DifferenceDesk();
            int[] limits = {1000, -1000, 999, -999, last};
            for (int n = 0; n < 5; n++) {
                x.difference(n, (n + 1) % 5, limits[n]);
            }
            for (int n = 0; n < 4; n++) {
                say(x, 10 + 2 * n);
            }
            due("check, a round of five with the sum " + last, x.check(18, -1, -1), last + 1);
        }
        for (int last = -5; last <= -4; last++) {
            DifferenceDesk x = new DifferenceDesk();
            int[] limits = {1000, -1000, 999, -999, last};
            for (int n = 0; n < 5; n++) {
                x.difference(n, (n + 1) % 5, limits[n]);
                if (n < 4) {
                    say(x, 11 + 2 * n);
                }
            }
            due("check, five that fail with the sum " + last, x.check(19, -1, -1), -4 - last);
        }
    }

    private static void termsOfPrices() {
        says("Terms: each literal of an atom has a price (0 .. 1000");
        DifferenceDesk x = withSteps(5);
        for (int literal = 0; literal < 20; literal++) {
            due("price(" + literal + ", 1000)", x.price(literal, 1000), 0);
            due("price(" + literal + ", 1001)", x.price(literal, 1001), REFUSED);
            due("price(" + literal + ", -1)", x.price(literal, -1), REFUSED);
            due("price(" + literal + ", 0)", x.price(literal, 0), 1000);
        }

        says("Terms: 0 when the atom is made");
        x = new DifferenceDesk();
        x.push();
        x.difference(0, 1, 0);
        due("price(10, 8)", x.price(10, 8), 0);
        due("price(11, 9)", x.price(11, 9), 0);
        x.pop();
        x.difference(0, 1, 0);
        due("cheapest(), the atom made again", x.cheapest(), 0);
        due("price(10, 1), the atom made again", x.price(10, 1), 0);
        due("price(11, 1), the atom made again", x.price(11, 1), 0);

        says("Terms: and at first)");
        x = new DifferenceDesk();
        for (int literal = 0; literal < 10; literal++) {
            due("price(" + literal + ", 5)", x.price(literal, 5), 0);
        }

        says("Terms: the COST of a pattern is the sum of the prices of those literals"
            + " that hold in it, one for each atom");
        for (int differences = 0; differences <= 5; differences++) {
            x = withSteps(differences);
            for (int literal = 0; literal < 10 + 2 * differences; literal++) {
                x.price(literal, 1000);
            }
            int cost = 5000 + 1000 * differences;
            due("cheapest(), " + differences + " differences", x.cheapest(), cost);
        }
    }

    private static void termsOfLevels() {
        says("Terms: What was said can be taken back level by level");
        popTakesBackOneLevel();

        says("Terms: the level is 0 at first");
        due("size()", new DifferenceDesk().size(), 0);
        due("push()", new DifferenceDesk().push(), 1);
        due("pop()", new DifferenceDesk().pop(), REFUSED);

        says("Terms: push goes to the next one (at most 4)");
        DifferenceDesk x = new DifferenceDesk();
        for (int level = 1; level <= 4; level++) {
            x.push();
            due("size()", x.size(), 256 * level);
        }
        x.push();
        due("size(), after a fifth push", x.size(), 1024);

        says("Terms: pop goes back, and all differences and clauses made since that push are gone");
        popTakesBackFromFull();
        popTakesBackNothing();

        says("Terms: (prices stay as they are)");
        x = new DifferenceDesk();
        x.difference(0, 1, 0);
        for (int literal = 0; literal < 12; literal++) {
            x.price(literal, 100 + literal);
        }
        x.push();
        for (int literal = 0; literal < 12; literal++) {
            x.price(literal, 989 + literal);
        }
        x.pop();
        for (int literal = 0; literal < 12; literal++) {
            due("price(" + literal + ", 0)", x.price(literal, 0), 989 + literal);
        }
    }

    private static void popTakesBackFromFull() {
        DifferenceDesk x = new DifferenceDesk();
        x.push();
        for (int n = 0; n < 5; n++) {
            x.difference(0, 1, n);
        }
        for (int n = 0; n < 24; n++) {
            say(x, n % 20);
        }
        due("pop(), all were made since", x.pop(), 0);
        due("size()", x.size(), 0);
        due("patterns()", x.patterns(), 32);
        for (int literal = 10; literal < 20; literal++) {
            due("implied(" + literal + "), of a gone atom", x.implied(literal), REFUSED);
        }
        due("difference(1, 0, 0), there is room again", x.difference(1, 0, 0), 5);
        due("clause(10, -1, -1, -1), there is room again", x.clause(10, -1, -1, -1), 1);
        due("greatest(1, 0)", x.greatest(1, 0), 0);
        due("greatest(0, 1)", x.greatest(0, 1), UNBOUNDED);
    }

    private static void popTakesBackOneLevel() {
        DifferenceDesk x = new DifferenceDesk();
        for (int level = 0; level <= 4; level++) {
            x.difference(level, (level + 1) % 5, level);
            say(x, 10 + 2 * level);
            if (level < 4) {
                x.push();
            }
        }
        for (int level = 3; level >= 0; level--) {
            due("pop()", x.pop(), level);
            due("size()", x.size(), (level + 1) * 9 + 256 * level);
            due("patterns()", x.patterns(), 32);
            due("implied of the last atom that stays", x.implied(10 + 2 * level), 1);
            due("implied of the first atom that is gone", x.implied(12 + 2 * level), REFUSED);
        }
    }

    private static void popTakesBackNothing() {
        DifferenceDesk x = busyWithAllDifferences();
        String before = portrait(x);
        for (int n = 0; n < 3; n++) {
            x.push();
        }
        due("push(), as the fourth level is reached", x.push(), FULL);
        for (int n = 0; n < 3; n++) {
            x.pop();
        }
        String after = portrait(x);
        if (!after.equals(before)) {
            complain("nothing was made since, but there is " + after + "; due is " + before);
        }
    }

    // ---- Promise 1

    private static void newObject() {
        says("Promise 1: No differences");
        DifferenceDesk x = new DifferenceDesk();
        for (int literal = 10; literal < 20; literal++) {
            due("implied(" + literal + ")", x.implied(literal), REFUSED);
        }
        due("difference(0, 1, 0), the first", x.difference(0, 1, 0), 5);

        says("Promise 1: no clauses");
        x = new DifferenceDesk();
        due("patterns()", x.patterns(), 32);
        due("clause(0, 1, -1, -1), the first", x.clause(0, 1, -1, -1), 1);

        says("Promise 1: level 0");
        x = new DifferenceDesk();
        due("pop()", x.pop(), REFUSED);
        due("push()", x.push(), 1);

        says("Promise 1: a new object has nothing of another one");
        DifferenceDesk other = busyWithAllClauses();
        x = new DifferenceDesk();
        due("size()", x.size(), 0);
        due("patterns()", x.patterns(), 32);
        due("price(10, 0)", x.price(10, 0), REFUSED);
        due("price(1, 0)", x.price(1, 0), 0);
        due("size() of the other one", other.size(), 2 + 8 * 24 + 256);
    }

    // ---- Promise 2

    private static void difference() {
        says("Promise 2: (i, j 0 .. 4");
        for (int i = 0; i < 5; i++) {
            for (int j = 0; j < 5; j++) {
                differenceOf(i, j);
            }
        }

        says("Promise 2: i 0 .. 4, else REFUSED");
        DifferenceDesk x = busy();
        for (int bad : NO_VARIABLE) {
            due("difference(" + bad + ", 0, 0)", x.difference(bad, 0, 0), REFUSED);
            due("difference(" + bad + ", 4, 0)", x.difference(bad, 4, 0), REFUSED);
        }
        dueAsTwin(x, busy());

        says("Promise 2: j 0 .. 4, else REFUSED");
        x = busy();
        for (int bad : NO_VARIABLE) {
            due("difference(0, " + bad + ", 0)", x.difference(0, bad, 0), REFUSED);
            due("difference(4, " + bad + ", 0)", x.difference(4, bad, 0), REFUSED);
            due("difference with both " + bad, x.difference(bad, bad, 0), REFUSED);
        }
        dueAsTwin(x, busy());

        says("Promise 2: not equal, else REFUSED");
        x = busy();
        for (int v = 0; v < 5; v++) {
            for (int c = -1000; c <= 1000; c += 1000) {
                due("difference(" + v + ", " + v + ", " + c + ")", x.difference(v, v, c), REFUSED);
            }
        }
        dueAsTwin(x, busy());

        says("Promise 2: c -1000 .. 1000");
        for (int c : new int[] {-1000, -999, -1, 0, 1, 999, 1000}) {
            x = new DifferenceDesk();
            due("difference(0, 1, " + c + ")", x.difference(0, 1, c), 5);
            say(x, 10);
            due("greatest(0, 1)", x.greatest(0, 1), c);
        }

        says("Promise 2: c -1000 .. 1000, else REFUSED");
        x = busy();
        for (int bad : NO_LIMIT) {
            due("difference(0, 1, " + bad + ")", x.difference(0, 1, bad), REFUSED);
        }
        dueAsTwin(x, busy());

        says("Promise 2: its atom");
        differenceAnswersItsAtom();

        says("Promise 2: FULL if there are five");
        x = withSteps(4);
        due("difference(4, 0, 1), the fifth", x.difference(4, 0, 1), 9);
        due("difference(4, 0, 1), the sixth", x.difference(4, 0, 1), FULL);
        due("difference(4, 0, 1), once more", x.difference(4, 0, 1), FULL);
        due("size()", x.size(), 5);
    }

    private static void differenceOf(int i, int j) {
        DifferenceDesk x = new DifferenceDesk();
        String call = "difference(" + i + ", " + j + ", 8)";
        due(call, x.difference(i, j, 8), i == j ? REFUSED : 5);
        due("size() after " + call, x.size(), i == j ? 0 : 1);
        if (i != j) {
            say(x, 10);
            due("greatest after " + call, x.greatest(i, j), 8);
            due("greatest the other way after " + call, x.greatest(j, i), UNBOUNDED);
        }
    }

    private static void differenceAnswersItsAtom() {
        DifferenceDesk x = new DifferenceDesk();
        for (int atom = 5; atom <= 9; atom++) {
            due("difference(0, 1, 2), the same each time", x.difference(0, 1, 2), atom);
            due("implied of its literal", x.implied(2 * atom + 1), 0);
        }
        x = new DifferenceDesk();
        x.difference(0, 1, 0);
        x.push();
        due("difference(0, 2, 0), above a push", x.difference(0, 2, 0), 6);
        due("difference(0, 3, 0), above a push", x.difference(0, 3, 0), 7);
        x.pop();
        due("difference(0, 4, 0), after the pop", x.difference(0, 4, 0), 6);
    }

    // ---- Promise 3

    private static void clause() {
        says("Promise 3: Adds the clause of those of the four that are not -1");
        for (int place = 0; place < 4; place++) {
            for (int literal = 0; literal < 20; literal++) {
                DifferenceDesk x = withSteps(5);
                clauseAt(x, place, literal, -1);
                due("implied(" + literal + ") by a clause of it alone", x.implied(literal), 1);
                due("implied of its contrary", x.implied(literal ^ 1), 0);
            }
        }

        says("Promise 3: (the same one may come twice)");
        DifferenceDesk x = new DifferenceDesk();
        due("clause(0, 0, -1, -1)", x.clause(0, 0, -1, -1), 1);
        due("patterns()", x.patterns(), 16);
        due("clause(3, 3, 3, 3)", x.clause(3, 3, 3, 3), 2);
        due("patterns()", x.patterns(), 8);
        due("clause(4, 6, 4, 6)", x.clause(4, 6, 4, 6), 3);
        due("patterns()", x.patterns(), 6);
        due("clause(8, 9, 9, 8), both ways", x.clause(8, 9, 9, 8), 4);
        due("patterns()", x.patterns(), 6);

        says("Promise 3: the number of clauses");
        clauseAnswersTheNumber();

        says("Promise 3: REFUSED if one is neither -1 nor a literal");
        x = busyWithAllDifferences();
        for (int place = 0; place < 4; place++) {
            for (int rest = -1; rest <= 0; rest++) {
                clauseRefuses(x, BELOW_LITERALS, place, rest);
                clauseRefuses(x, ABOVE_LITERALS, place, rest);
            }
        }
        dueAsTwin(x, busyWithAllDifferences());

        says("Promise 3: REFUSED if one is not of an atom that is there");
        for (int place = 0; place < 4; place++) {
            clauseOfAtomsThatAreThere(place);
        }

        says("Promise 3: FULL if there are 24");
        x = busyWithAllClauses();
        due("size(), 24 clauses", x.size(), 2 + 8 * 24 + 256);
        due("clause(0, -1, -1, -1), the 25th", x.clause(0, -1, -1, -1), FULL);
        due("clause(-1, -1, -1, -1), an empty one", x.clause(-1, -1, -1, -1), FULL);
        due("clause(10, 10, 10, 10), one that is there", x.clause(10, 10, 10, 10), FULL);
        due("size()", x.size(), 2 + 8 * 24 + 256);
    }

    private static int clauseAt(DifferenceDesk x, int place, int literal, int rest) {
        return x.clause(place == 0 ? literal : rest, place == 1 ? literal : rest,
            place == 2 ? literal : rest, place == 3 ? literal : rest);
    }

    private static void clauseRefuses(DifferenceDesk x, int[] literals, int place, int rest) {
        for (int bad : literals) {
            due("clause with " + bad + " at " + place, clauseAt(x, place, bad, rest), REFUSED);
        }
    }

    private static void clauseAnswersTheNumber() {
        DifferenceDesk x = new DifferenceDesk();
        due("clause(-1, -1, -1, -1), an empty one counts", x.clause(-1, -1, -1, -1), 1);
        due("clause(0, 2, 4, 6), one of four counts once", x.clause(0, 2, 4, 6), 2);
        x.push();
        for (int n = 3; n <= 24; n++) {
            due("clause(0, 2, 4, 6), the same again", x.clause(0, 2, 4, 6), n);
        }
        x.pop();
        due("clause(0, -1, -1, -1), after a pop to 2", x.clause(0, -1, -1, -1), 3);
    }

    private static void clauseOfAtomsThatAreThere(int place) {
        DifferenceDesk x = new DifferenceDesk();
        for (int differences = 0; differences <= 5; differences++) {
            int end = 10 + 2 * differences;
            int[] next = {end, end + 1};
            clauseRefuses(x, next, place, 0);
            due("clause with the last at " + place, clauseAt(x, place, end - 1, 0), differences + 1);
            x.difference(0, 1, differences);
        }
        DifferenceDesk y = new DifferenceDesk();
        y.push();
        y.difference(0, 1, 0);
        y.pop();
        due("clause with a gone atom at " + place, clauseAt(y, place, 10, 0), REFUSED);
        due("size()", y.size(), 0);
    }

    // ---- Promises 4 and 5

    private static void pushAndPop() {
        says("Promise 4: The level then");
        DifferenceDesk x = new DifferenceDesk();
        for (int level = 1; level <= 4; level++) {
            due("push()", x.push(), level);
        }

        says("Promise 4: FULL, nothing changes, if it is 4");
        x = atLevelFour();
        DifferenceDesk twin = atLevelFour();
        due("push() at level 4", x.push(), FULL);
        due("push() at level 4, again", x.push(), FULL);
        for (int level = 3; level >= 0; level--) {
            dueSamePortrait("at level " + (level + 1), x, twin);
            due("pop()", x.pop(), level);
            twin.pop();
        }
        dueSamePortrait("at level 0", x, twin);

        says("Promise 4: a push where differences and clauses are full");
        x = busyWithAllDifferences();
        for (int n = 2; n < 24; n++) {
            say(x, 0);
        }
        due("push()", x.push(), 2);
        due("size()", x.size(), 5 + 8 * 24 + 512);

        says("Promise 5: The level then");
        x = atLevelFour();
        for (int level = 3; level >= 0; level--) {
            due("pop()", x.pop(), level);
        }
        due("push(), after all pops", x.push(), 1);
        due("pop(), after it", x.pop(), 0);

        says("Promise 5: REFUSED, nothing changes, if it is 0");
        x = busy();
        twin = busy();
        x.pop();
        twin.pop();
        due("pop() at level 0", x.pop(), REFUSED);
        due("pop() at level 0, again", x.pop(), REFUSED);
        dueSamePortrait("at once", x, twin);
        due("push(), next", x.push(), twin.push());
        dueAsTwin(x, twin);
    }

    /** It takes fewer calls to make than a desk with five portraits has left. */
    private static DifferenceDesk atLevelFour() {
        DifferenceDesk x = new DifferenceDesk();
        for (int level = 0; level < 4; level++) {
            x.difference(level, level + 1, 3 - level);
            x.clause(10 + 2 * level, 2 * level + 1, -1, -1);
            x.price(11 + 2 * level, level);
            x.push();
        }
        x.difference(4, 0, 2);
        x.clause(19, 8, -1, -1);
        return x;
    }

    // ---- Promise 6

    private static void check() {
        says("Promise 6: those of the three literals that are not -1");
        DifferenceDesk x = new DifferenceDesk();
        due("check(-1, -1, -1), none", x.check(-1, -1, -1), 1);
        checkWhereOnePatternIsLeft(0);
        checkWhereOnePatternIsLeft(1);
        x.clause(1, 3, 5, -1);
        due("check(0, 2, 4), all three", x.check(0, 2, 4), 0);
        due("check(-1, 2, 4)", x.check(-1, 2, 4), 1);
        due("check(0, -1, 4)", x.check(0, -1, 4), 1);
        due("check(0, 2, -1)", x.check(0, 2, -1), 1);
        x = withSteps(5);
        for (int literal = 0; literal < 20; literal++) {
            due("check of " + literal + " and its contrary", x.check(literal, literal ^ 1, -1), 0);
            due("check of " + literal + " and its contrary", x.check(-1, literal, literal ^ 1), 0);
            due("check of " + literal + " and its contrary", x.check(literal, -1, literal ^ 1), 0);
            due("check of " + literal + " thrice", x.check(literal, literal, literal), 1);
        }

        says("Promise 6: else 0");
        due("check(-1, -1, -1), an empty clause", withoutModel().check(-1, -1, -1), 0);
        due("check(-1, -1, -1), no integers", withoutIntegers().check(-1, -1, -1), 0);
        due("check(0, 3, -1), no integers", withoutIntegers().check(0, 3, -1), 0);

        says("Promise 6: REFUSED if one is neither");
        for (int place = 0; place < 3; place++) {
            checkRefusesAt(place);
        }
        due("check(0, 1, 10), two that can't hold", new DifferenceDesk().check(0, 1, 10), REFUSED);
        due("check(-1, -1, 10), no model", withoutModel().check(-1, -1, 10), REFUSED);
        due("check(-1, 14, -1), no integers", withoutIntegers().check(-1, 14, -1), REFUSED);
    }

    private static void checkWhereOnePatternIsLeft(int side) {
        DifferenceDesk x = new DifferenceDesk();
        for (int atom = 0; atom < 5; atom++) {
            say(x, 2 * atom + side);
        }
        due("check(-1, -1, -1), one pattern", x.check(-1, -1, -1), 1);
        for (int place = 0; place < 3; place++) {
            for (int literal = 0; literal < 10; literal++) {
                int holds = literal % 2 == side ? 1 : 0;
                due("check with " + literal + " at " + place, checkAt(x, place, literal, -1), holds);
            }
        }
    }

    private static int checkAt(DifferenceDesk x, int place, int literal, int rest) {
        return x.check(place == 0 ? literal : rest, place == 1 ? literal : rest,
            place == 2 ? literal : rest);
    }

    private static void checkRefuses(DifferenceDesk x, int[] literals, int place, int rest) {
        for (int bad : literals) {
            due("check with " + bad + " at " + place, checkAt(x, place, bad, rest), REFUSED);
        }
    }

    private static void checkRefusesAt(int place) {
        DifferenceDesk x = new DifferenceDesk();
        for (int differences = 0; differences <= 5; differences++) {
            int end = 10 + 2 * differences;
            due("check with " + (end - 1) + " at " + place, checkAt(x, place, end - 1, 0), 1);
            int[] next = {end, end + 1};
            checkRefuses(x, next, place, 0);
            checkRefuses(x, next, place, -1);
            x.difference(0, 1, differences);
        }
        checkRefuses(x, BELOW_LITERALS, place, -1);
        checkRefuses(x, ABOVE_LITERALS, place, -1);
        DifferenceDesk y = busy();
        y.pop();
        due("check with a gone atom at " + place, checkAt(y, place, 12, -1), REFUSED);
    }

    // ---- Promise 7

    private static void implied() {
        says("Promise 7: 1 if the literal holds in all models");
        DifferenceDesk x = withSteps(5);
        say(x, 0);
        say(x, 9);
        say(x, 13);
        int[] holding = {0, 9, 11, 13};
        for (int literal : holding) {
            due("implied(" + literal + ")", x.implied(literal), 1);
            due("implied(" + (literal ^ 1) + ")", x.implied(literal ^ 1), 0);
        }
        say(x, 18);
        due("implied(18), the last atom", x.implied(18), 1);
        due("implied(19), the last atom", x.implied(19), 0);
        due("implied(16), open", x.implied(16), 0);
        due("implied(17), open", x.implied(17), 0);

        says("Promise 7: else 0");
        x = withSteps(1);
        for (int atom = 1; atom <= 5; atom++) {
            x.clause(0, 2 * atom, -1, -1);
        }
        due("patterns(), one of them without atom 0", x.patterns(), 33);
        due("implied(0)", x.implied(0), 0);
        x.clause(0, 11, -1, -1);
        due("implied(0), that one is ruled out", x.implied(0), 1);

        says("Promise 7: (also if there are none)");
        for (int literal = 0; literal < 10; literal++) {
            due("implied(" + literal + "), an empty clause", withoutModel().implied(literal), 1);
        }
        for (int literal = 0; literal < 14; literal++) {
            due("implied(" + literal + "), no integers", withoutIntegers().implied(literal), 1);
        }

        says("Promise 7: REFUSED if it is none");
        impliedRefuses();
    }

    private static void impliedRefuses() {
        DifferenceDesk x = new DifferenceDesk();
        for (int differences = 0; differences <= 5; differences++) {
            int end = 10 + 2 * differences;
            due("implied(" + end + ")", x.implied(end), REFUSED);
            due("implied(" + (end + 1) + ")", x.implied(end + 1), REFUSED);
            x.difference(0, 1, differences);
        }
        due("implied(-1)", x.implied(-1), REFUSED);
        for (int bad : BELOW_LITERALS) {
            due("implied(" + bad + ")", x.implied(bad), REFUSED);
        }
        for (int bad : ABOVE_LITERALS) {
            due("implied(" + bad + ")", x.implied(bad), REFUSED);
        }
        due("implied(-1), no model", withoutModel().implied(-1), REFUSED);
        due("implied(10), no model", withoutModel().implied(10), REFUSED);
        due("implied(14), no integers", withoutIntegers().implied(14), REFUSED);
        DifferenceDesk y = busy();
        y.pop();
        due("implied(12), of a gone atom", y.implied(12), REFUSED);
    }

    // ---- Promise 8

    private static void greatest() {
        says("Promise 8: The greatest value of x_i - x_j in all models");
        for (int start = 0; start < 5; start++) {
            greatestAlongTheLongestWay(start);
        }
        greatestOfOneValue();
        greatestOverTwoPatterns();
        for (int value = -3; value <= 3; value++) {
            greatestWithALesserOne(value);
        }

        says("Promise 8: UNBOUNDED if there is none");
        DifferenceDesk x = new DifferenceDesk();
        due("greatest(0, 4)", x.greatest(0, 4), UNBOUNDED);
        x.difference(0, 4, -1000);
        due("greatest(0, 4), bounded in some models only", x.greatest(0, 4), UNBOUNDED);
        x.clause(10, 0, -1, -1);
        x.clause(10, 2, -1, -1);
        x.clause(10, 4, -1, -1);
        x.clause(10, 6, -1, -1);
        x.clause(10, 8, -1, -1);
        due("greatest(0, 4), bounded in all patterns but one", x.greatest(0, 4), UNBOUNDED);
        x.clause(10, 1, -1, -1);
        due("greatest(0, 4), bounded in all patterns", x.greatest(0, 4), -1000);
        due("greatest(4, 0), no least value", x.greatest(4, 0), UNBOUNDED);

        says("Promise 8: NONE if there is no model");
        for (int i = 0; i < 5; i++) {
            for (int j = 0; j < 5; j++) {
                due("greatest, an empty clause", withoutModel().greatest(i, j), NONE);
                due("greatest, no integers", withoutIntegers().greatest(i, j), NONE);
            }
        }

        says("Promise 8: NONE if i is not 0 .. 4");
        x = busy();
        for (int bad : NO_VARIABLE) {
            due("greatest(" + bad + ", 0)", x.greatest(bad, 0), NONE);
            due("greatest(" + bad + ", 4)", x.greatest(bad, 4), NONE);
        }
        due("greatest(-1, 0), no model", withoutModel().greatest(-1, 0), NONE);

        says("Promise 8: NONE if j is not 0 .. 4");
        for (int bad : NO_VARIABLE) {
            due("greatest(0, " + bad + ")", x.greatest(0, bad), NONE);
            due("greatest(4, " + bad + ")", x.greatest(4, bad), NONE);
            due("greatest(" + bad + ", " + bad + ")", x.greatest(bad, bad), NONE);
        }

        says("Promise 8: NONE if they are equal");
        for (int v = 0; v < 5; v++) {
            due("greatest(" + v + ", " + v + ")", x.greatest(v, v), NONE);
        }
    }

    /** From each start it goes by way of other variables, so that none may be passed over. */
    private static void greatestAlongTheLongestWay(int start) {
        DifferenceDesk most = new DifferenceDesk();
        DifferenceDesk least = new DifferenceDesk();
        for (int n = 0; n < 4; n++) {
            int here = (start + n) % 5;
            int next = (here + 1) % 5;
            most.difference(here, next, 1000);
            say(most, 10 + 2 * n);
            least.difference(next, here, 1000);
            say(least, 11 + 2 * n);
        }
        int end = (start + 4) % 5;
        due("greatest from " + start + " on, four times 1000", most.greatest(start, end), 4000);
        due("greatest the other way round", most.greatest(end, start), UNBOUNDED);
        due("greatest from " + start + " on, four times -1001", least.greatest(start, end), -4004);
        due("greatest the other way round", least.greatest(end, start), UNBOUNDED);
    }

    private static void greatestOfOneValue() {
        for (int value = -3; value <= 3; value++) {
            DifferenceDesk x = new DifferenceDesk();
            x.difference(4, 0, value);
            x.difference(4, 0, value - 1);
            say(x, 10);
            say(x, 13);
            due("greatest(4, 0), just " + value, x.greatest(4, 0), value);
            due("greatest(0, 4), just " + -value, x.greatest(0, 4), -value);
        }
    }

    private static void greatestOverTwoPatterns() {
        DifferenceDesk x = new DifferenceDesk();
        x.difference(0, 1, -1000);
        x.difference(0, 1, 1000);
        say(x, 12);
        due("greatest(0, 1), in the weaker pattern", x.greatest(0, 1), 1000);
        x.clause(10, 8, -1, -1);
        due("greatest(0, 1), the weaker one needs a truth", x.greatest(0, 1), 1000);
        say(x, 9);
        due("greatest(0, 1), the weaker one is out", x.greatest(0, 1), -1000);
    }

    private static void greatestWithALesserOne(int value) {
        DifferenceDesk lesserIsLater = new DifferenceDesk();
        lesserIsLater.difference(0, 1, value);
        lesserIsLater.difference(0, 1, value - 4);
        say(lesserIsLater, 10);
        due("greatest(0, 1), a lesser one is made later", lesserIsLater.greatest(0, 1), value);
        DifferenceDesk lesserIsEarlier = new DifferenceDesk();
        lesserIsEarlier.difference(0, 1, value - 4);
        lesserIsEarlier.difference(0, 1, value);
        say(lesserIsEarlier, 12);
        due("greatest(0, 1), a lesser one is made earlier", lesserIsEarlier.greatest(0, 1), value);
    }

    // ---- Promises 9 and 10

    private static void patterns() {
        says("Promise 9: How many possible patterns there are: none");
        due("patterns(), an empty clause", withoutModel().patterns(), 0);
        due("patterns(), no integers", withoutIntegers().patterns(), 0);

        says("Promise 9: How many possible patterns there are: one");
        DifferenceDesk x = withSteps(5);
        for (int atom = 0; atom < 9; atom++) {
            say(x, 2 * atom + 1);
        }
        due("patterns(), the last atom is open", x.patterns(), 2);
        x.push();
        say(x, 18);
        due("patterns(), the last atom is yes", x.patterns(), 1);
        x.pop();
        say(x, 19);
        due("patterns(), the last atom is no", x.patterns(), 1);

        says("Promise 9: How many possible patterns there are: as many as can be");
        x = new DifferenceDesk();
        for (int count = 0; count < 4; count++) {
            due("patterns(), " + count + " differences", x.patterns(), 32 << count);
            x.difference(count, count + 1, 0);
        }
        due("patterns(), 4 differences", x.patterns(), 512);
        x.difference(4, 0, 0);
        due("patterns(), five in a round can't all fail", x.patterns(), 32 * 31);
        DifferenceDesk y = withSteps(5);
        due("patterns(), five steps", y.patterns(), 32 * 6);
    }

    private static void settled() {
        says("Promise 10: How many truths and differences have the same value"
            + " in all possible patterns");
        due("settled(), none of five", new DifferenceDesk().settled(), 0);
        DifferenceDesk x = withSteps(5);
        due("settled(), none of ten", x.settled(), 0);
        for (int atom = 0; atom < 5; atom++) {
            say(x, 2 * atom + atom % 2);
            due("settled(), truths", x.settled(), atom + 1);
        }
        say(x, 17);
        due("settled(), all but the last", x.settled(), 9);
        x.push();
        say(x, 18);
        due("settled(), all of ten", x.settled(), 10);
        x.pop();
        say(x, 19);
        due("settled(), all of ten", x.settled(), 10);

        says("Promise 10: (0 if there is none)");
        due("settled(), an empty clause", withoutModel().settled(), 0);
        due("settled(), no integers", withoutIntegers().settled(), 0);
        say(x, 18);
        due("settled(), all said and more", x.settled(), 0);
    }

    // ---- Promise 11

    private static void price() {
        says("Promise 11: Sets the price of a literal: the old one");
        DifferenceDesk x = withSteps(5);
        for (int literal = 0; literal < 20; literal++) {
            due("price(" + literal + ", 1000)", x.price(literal, 1000), 0);
        }
        for (int literal = 0; literal < 20; literal++) {
            due("price(" + literal + ", 0)", x.price(literal, 0), 1000);
            due("price(" + literal + ", 1)", x.price(literal, 1), 0);
            due("price(" + literal + ", 999)", x.price(literal, 999), 1);
            due("price(" + literal + ", 999), the same again", x.price(literal, 999), 999);
        }

        says("Promise 11: REFUSED, nothing changes, if it is none");
        x = busyWithAllDifferences();
        due("price(-1, 3)", x.price(-1, 3), REFUSED);
        for (int bad : BELOW_LITERALS) {
            due("price(" + bad + ", 3)", x.price(bad, 3), REFUSED);
        }
        for (int bad : ABOVE_LITERALS) {
            due("price(" + bad + ", 3)", x.price(bad, 3), REFUSED);
            due("price(" + bad + ", -1)", x.price(bad, -1), REFUSED);
        }
        dueAsTwin(x, busyWithAllDifferences());
        priceOfAtomsThatAreThere();

        says("Promise 11: REFUSED, nothing changes, if p is not 0 .. 1000");
        x = busyWithAllDifferences();
        for (int bad : NO_PRICE) {
            due("price(0, " + bad + ")", x.price(0, bad), REFUSED);
            due("price(11, " + bad + ")", x.price(11, bad), REFUSED);
            due("price(19, " + bad + ")", x.price(19, bad), REFUSED);
        }
        dueAsTwin(x, busyWithAllDifferences());
    }

    private static void priceOfAtomsThatAreThere() {
        DifferenceDesk x = new DifferenceDesk();
        for (int differences = 0; differences <= 5; differences++) {
            int end = 10 + 2 * differences;
            due("price(" + end + ", 3)", x.price(end, 3), REFUSED);
            due("price(" + (end + 1) + ", 3)", x.price(end + 1, 3), REFUSED);
            x.difference(0, 1, differences);
        }
        due("cheapest()", x.cheapest(), 0);
        for (int literal = 0; literal < 20; literal++) {
            due("price(" + literal + ", 0)", x.price(literal, 0), 0);
        }
        DifferenceDesk y = busy();
        y.pop();
        due("price(12, 3), of a gone atom", y.price(12, 3), REFUSED);
        due("price(13, 3), of a gone atom", y.price(13, 3), REFUSED);
    }

    // ---- Promises 12, 13 and 14

    private static void cheapest() {
        says("Promise 12: The least cost of a possible pattern");
        DifferenceDesk x = withSteps(5);
        due("cheapest(), all prices 0", x.cheapest(), 0);
        for (int literal = 0; literal < 20; literal++) {
            x.price(literal, 1000);
        }
        due("cheapest(), all prices 1000", x.cheapest(), 10000);
        x.price(19, 999);
        due("cheapest(), one pattern is cheaper by 1", x.cheapest(), 9999);
        x.push();
        say(x, 18);
        due("cheapest(), that one is out", x.cheapest(), 10000);
        x.pop();
        x.price(0, 0);
        due("cheapest(), another price of 0", x.cheapest(), 8999);

        says("Promise 12: NONE if there is none");
        due("cheapest(), an empty clause", withoutModel().cheapest(), NONE);
        x = withoutIntegers();
        due("cheapest(), no integers", x.cheapest(), NONE);
        x.price(0, 1000);
        x.price(1, 1000);
        due("cheapest(), no integers, but prices", x.cheapest(), NONE);
    }

    private static void first() {
        says("Promise 13: where \"no\" comes before \"yes\"");
        due("first(), all no", new DifferenceDesk().first(), 0);
        due("first(), all no of ten", withSteps(5).first(), 0);

        says("Promise 13: atom 0 counts most, then atom 1, and so on");
        for (int atom = 0; atom < 9; atom++) {
            DifferenceDesk x = withSteps(5);
            x.clause(2 * atom, 2 * atom + 2, -1, -1);
            // A step that holds takes the weaker ones with it.
            int later = atom < 4 ? 2 << atom : 1024 - (2 << atom);
            due("first(), atom " + atom + " or the next", x.first(), later);
        }
        DifferenceDesk x = withSteps(5);
        for (int atom = 1; atom < 10; atom++) {
            x.clause(0, 2 * atom, -1, -1);
        }
        due("first(), atom 0 or all others", x.first(), 1022);

        says("Promise 13: a bit 1 << a for each atom a that is yes");
        for (int atom = 0; atom < 10; atom++) {
            x = new DifferenceDesk();
            for (int n = 0; n < 5; n++) {
                x.difference(n, (n + 1) % 5, -100 * n);
            }
            say(x, 2 * atom);
            // Each of the round may hold alone: they only can't hold all at once.
            due("first(), atom " + atom + " must be yes", x.first(), 1 << atom);
        }
        x = withSteps(5);
        for (int atom = 0; atom < 6; atom++) {
            say(x, 2 * atom);
        }
        due("first(), all yes", x.first(), 1023);

        says("Promise 13: -1 if there is none");
        due("first(), an empty clause", withoutModel().first(), -1);
        due("first(), no integers", withoutIntegers().first(), -1);
    }

    private static void firstCheapest() {
        says("Promise 14: The same among the possible patterns of the least cost");
        DifferenceDesk x = withSteps(5);
        due("firstCheapest(), all cost 0", x.firstCheapest(), 0);
        for (int literal = 0; literal < 20; literal++) {
            x.price(literal, 1000);
        }
        due("firstCheapest(), all cost 10000", x.firstCheapest(), 0);
        x.price(18, 999);
        due("firstCheapest(), the last atom is cheaper by 1", x.firstCheapest(), 512);
        x.price(8, 999);
        due("firstCheapest(), atom 4 too", x.firstCheapest(), 512 + 16);
        x.price(10, 0);
        due("firstCheapest(), atom 5 is far cheaper", x.firstCheapest(), 1024 - 16);
        x.clause(9, 11, -1, -1);
        due("firstCheapest(), not with atom 4", x.firstCheapest(), 1024 - 32);
        x.price(10, 999);
        due("firstCheapest(), atom 4 and 5 cost the same", x.firstCheapest(), 1024 - 32);
        x.price(11, 999);
        due("firstCheapest(), one pattern is cheapest again", x.firstCheapest(), 512 + 16);
        due("first(), prices don't count", x.first(), 0);

        says("Promise 14: -1 if there is none");
        due("firstCheapest(), an empty clause", withoutModel().firstCheapest(), -1);
        x = withoutIntegers();
        x.price(1, 1000);
        due("firstCheapest(), no integers", x.firstCheapest(), -1);
    }

    // ---- Promise 15

    private static void size() {
        says("Promise 15: How many differences there are, + 8 * clauses, + 256 * level");
        DifferenceDesk x = new DifferenceDesk();
        due("size(), nothing", x.size(), 0);
        for (int n = 1; n <= 5; n++) {
            x.difference(0, 1, 0);
            due("size(), differences", x.size(), n);
        }
        for (int n = 1; n <= 24; n++) {
            x.clause(-1, -1, -1, -1);
            due("size(), clauses", x.size(), 5 + 8 * n);
        }
        for (int n = 1; n <= 4; n++) {
            x.push();
            due("size(), levels", x.size(), 5 + 8 * 24 + 256 * n);
        }
        due("size(), all full", x.size(), 1221);
    }

    // ---- Promise 16

    private static void orderAndLimits() {
        says("Promise 16: difference: REFUSED is tested before FULL");
        DifferenceDesk x = busyWithAllDifferences();
        due("difference(0, 1, 0)", x.difference(0, 1, 0), FULL);
        due("difference(4, 3, 1000)", x.difference(4, 3, 1000), FULL);
        due("difference(3, 4, -1000)", x.difference(3, 4, -1000), FULL);
        for (int bad : NO_VARIABLE) {
            due("difference(" + bad + ", 1, 0)", x.difference(bad, 1, 0), REFUSED);
            due("difference(1, " + bad + ", 0)", x.difference(1, bad, 0), REFUSED);
        }
        for (int bad : NO_LIMIT) {
            due("difference(0, 1, " + bad + ")", x.difference(0, 1, bad), REFUSED);
        }
        due("difference(2, 2, 0)", x.difference(2, 2, 0), REFUSED);

        says("Promise 16: difference: both change nothing");
        dueAsTwin(x, busyWithAllDifferences());

        says("Promise 16: clause: REFUSED is tested before FULL");
        x = busyWithAllClauses();
        due("clause(0, -1, -1, -1)", x.clause(0, -1, -1, -1), FULL);
        due("clause(-1, -1, -1, -1)", x.clause(-1, -1, -1, -1), FULL);
        due("clause(13, 12, 0, 9)", x.clause(13, 12, 0, 9), FULL);
        for (int place = 0; place < 4; place++) {
            int[] next = {14, 15};
            clauseRefuses(x, next, place, 0);
            clauseRefuses(x, BELOW_LITERALS, place, -1);
            clauseRefuses(x, ABOVE_LITERALS, place, -1);
        }

        says("Promise 16: clause: both change nothing");
        dueAsTwin(x, busyWithAllClauses());
    }
}
