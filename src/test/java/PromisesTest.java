// Each promise of the document by example: ordinary inputs, the edges it names, and wrong inputs.
public final class PromisesTest {
    private static final int REFUSED = -1, FULL = -2;
    private static final long NONE = 3000000000L, UNBOUNDED = 3000000001L;

    private static int wrong = 0;

    private static void due(String what, long got, long want) {
        if (got != want) {
            wrong++;
            System.out.println(what + " answered " + got + ", due is " + want);
        }
    }

    public static void main(String[] args) {
        constants();
        newObject();
        difference();
        clause();
        clauseLiterals();
        pushAndPop();
        check();
        implied();
        greatest();
        greatestAtTheEdges();
        greatestOverSeveralPatterns();
        greatestWithoutAnswer();
        patterns();
        settled();
        price();
        priceOfAnAtomMadeAgain();
        cheapest();
        first();
        firstCheapest();
        noPossiblePattern();
        size();
        refusedBeforeFull();
        objectsAreApart();
        exampleOfTheReadme();
        System.out.println(wrong == 0 ? "all answers are as due" : wrong + " answers are not as due");
        if (wrong != 0) {
            System.exit(1);
        }
    }

    private static void constants() {
        due("REFUSED", DifferenceDesk.REFUSED, REFUSED);
        due("FULL", DifferenceDesk.FULL, FULL);
        due("NONE", DifferenceDesk.NONE, NONE);
        due("UNBOUNDED", DifferenceDesk.UNBOUNDED, UNBOUNDED);
    }

    private static void newObject() {
        DifferenceDesk x = new DifferenceDesk();
        due("1: size of a new object", x.size(), 0);
        due("1: patterns of a new object", x.patterns(), 32);
        due("1: settled of a new object", x.settled(), 0);
        due("1: first of a new object", x.first(), 0);
        due("1: cheapest of a new object", x.cheapest(), 0);
        due("1: firstCheapest of a new object", x.firstCheapest(), 0);
        due("1: pop of a new object", x.pop(), REFUSED);
        due("1: no difference is there", x.implied(10), REFUSED);
        for (int literal = 0; literal < 10; literal++) {
            due("1: price of literal " + literal, x.price(literal, 0), 0);
        }
    }

    private static void difference() {
        DifferenceDesk x = new DifferenceDesk();
        for (int v : new int[] {-1, 5, 6, -2, Integer.MIN_VALUE, Integer.MAX_VALUE}) {
            due("2: difference with i = " + v, x.difference(v, 1, 0), REFUSED);
            due("2: difference with j = " + v, x.difference(1, v, 0), REFUSED);
            due("2: difference with both = " + v, x.difference(v, v, 0), REFUSED);
        }
        for (int v = 0; v < 5; v++) {
            due("2: difference of a variable to itself", x.difference(v, v, 0), REFUSED);
        }
        for (int c : new int[] {-1001, 1001, Integer.MIN_VALUE, Integer.MAX_VALUE}) {
            due("2: difference with c = " + c, x.difference(0, 1, c), REFUSED);
        }
        due("2: refused ones are not made", x.size(), 0);
        due("2: first", x.difference(0, 4, 1000), 5);
        due("2: second", x.difference(4, 0, -1000), 6);
        due("2: the same again is another atom", x.difference(0, 4, 1000), 7);
        due("2: fourth", x.difference(3, 2, 0), 8);
        due("2: fifth", x.difference(1, 3, 7), 9);
        due("2: sixth", x.difference(1, 3, 7), FULL);
        due("2: size with five", x.size(), 5);
    }

    private static void clause() {
        DifferenceDesk x = new DifferenceDesk();
        for (int bad : new int[] {-2, 10, 11, 20, Integer.MIN_VALUE, Integer.MAX_VALUE}) {
            due("3: a = " + bad, x.clause(bad, 0, 0, 0), REFUSED);
            due("3: b = " + bad, x.clause(0, bad, 0, 0), REFUSED);
            due("3: c = " + bad, x.clause(0, 0, bad, 0), REFUSED);
            due("3: d = " + bad, x.clause(0, 0, 0, bad), REFUSED);
        }
        due("3: refused ones are not added", x.size(), 0);
        x.difference(0, 1, 0);
        due("3: both literals of the difference", x.clause(10, 11, -1, -1), 1);
        due("3: the next atom is not there", x.clause(12, -1, -1, -1), REFUSED);
        for (int n = 2; n <= 24; n++) {
            due("3: clause " + n, x.clause(0, 1, 9, 8), n);
        }
        due("3: clause 25", x.clause(0, -1, -1, -1), FULL);
        due("3: the one over changed nothing", x.patterns(), 64);
        due("3: size with 24", x.size(), 1 + 8 * 24);
    }

    private static void clauseLiterals() {
        for (int place = 0; place < 4; place++) {
            for (int literal = 0; literal < 10; literal++) {
                DifferenceDesk x = new DifferenceDesk();
                int[] at = {-1, -1, -1, -1};
                at[place] = literal;
                x.clause(at[0], at[1], at[2], at[3]);
                due("3: a clause of one literal makes it hold", x.implied(literal), 1);
                due("3: a clause of one literal halves the patterns", x.patterns(), 16);
            }
        }
        DifferenceDesk x = new DifferenceDesk();
        x.clause(0, 0, 2, 2);
        due("3: twice the same", x.patterns(), 24);
        x.clause(1, 3, 5, 7);
        due("3: four literals", x.patterns(), 22);
        x.clause(8, 9, -1, -1);
        due("3: one that always holds", x.patterns(), 22);
        x.clause(-1, -1, -1, -1);
        due("3: one without literals", x.patterns(), 0);
    }

    private static void pushAndPop() {
        DifferenceDesk x = new DifferenceDesk();
        x.difference(0, 1, 3);
        x.clause(10, -1, -1, -1);
        for (int level = 1; level <= 4; level++) {
            due("4: push", x.push(), level);
            x.difference(1, 2, level);
            x.clause(10 + 2 * level, -1, -1, -1);
            x.clause(2 * level, -1, -1, -1);
        }
        int full = 5 + 8 * 9 + 256 * 4;
        due("4: size at level 4", x.size(), full);
        due("4: push at level 4", x.push(), FULL);
        due("4: push at level 4 again", x.push(), FULL);
        due("4: it changed nothing", x.size(), full);
        due("4: greatest at level 4", x.greatest(0, 2), 4);
        for (int level = 3; level >= 0; level--) {
            due("5: pop", x.pop(), level);
            due("5: size after pop", x.size(), 1 + level + 8 * (1 + 2 * level) + 256 * level);
            due("5: patterns after pop", x.patterns(), 32 >> level);
            due("5: the difference is gone", x.implied(12 + 2 * level), REFUSED);
        }
        due("5: pop at level 0", x.pop(), REFUSED);
        due("5: it changed nothing", x.size(), 9);
        due("5: what was said before the first push stays", x.greatest(0, 1), 3);
        due("5: push again", x.push(), 1);
        due("5: a pop without anything said since", x.pop(), 0);
        due("5: takes nothing back", x.size(), 9);
        x.push();
        x.difference(3, 4, 9);
        x.pop();
        due("5: a gone atom's number is used again", x.difference(4, 3, -9), 6);
        x.clause(12, -1, -1, -1);
        due("5: for the new difference", x.greatest(4, 3), -9);
    }

    private static void check() {
        DifferenceDesk x = new DifferenceDesk();
        for (int bad : new int[] {-2, -3, 10, 11, Integer.MIN_VALUE, Integer.MAX_VALUE}) {
            due("6: a = " + bad, x.check(bad, -1, -1), REFUSED);
            due("6: b = " + bad, x.check(-1, bad, -1), REFUSED);
            due("6: c = " + bad, x.check(-1, -1, bad), REFUSED);
        }
        due("6: nothing asked", x.check(-1, -1, -1), 1);
        due("6: three yes", x.check(0, 4, 8), 1);
        due("6: three no", x.check(1, 5, 9), 1);
        due("6: one and its contrary", x.check(2, -1, 3), 0);
        due("6: the same three times", x.check(3, 3, 3), 1);
        x.clause(1, 3, 5, -1);
        due("6: all but one place", x.check(0, 2, -1), 1);
        due("6: the clause fails", x.check(0, 2, 4), 0);
        x.difference(0, 1, 5);
        x.difference(1, 2, 5);
        x.difference(0, 2, 9);
        due("6: 5 + 5 may be above 9", x.check(10, 12, 15), 1);
        due("6: not with one more that is not there", x.check(10, 12, 16), REFUSED);
        x.difference(0, 2, 10);
        due("6: 5 + 5 can't be above 10", x.check(10, 12, 17), 0);
        due("6: both above, the sum within", x.check(11, 13, 16), 0);
        due("6: within 9, not within 10", x.check(14, 17, -1), 0);
        due("6: within 10, not within 9", x.check(15, 16, -1), 1);
        due("6: asking changed nothing", x.size(), 4 + 8);
    }

    private static void implied() {
        DifferenceDesk x = new DifferenceDesk();
        for (int bad : new int[] {-1, -2, 10, 11, Integer.MIN_VALUE, Integer.MAX_VALUE}) {
            due("7: implied(" + bad + ")", x.implied(bad), REFUSED);
        }
        due("7: a free truth", x.implied(0), 0);
        due("7: a free truth's contrary", x.implied(1), 0);
        x.clause(0, 2, -1, -1);
        x.clause(0, 3, -1, -1);
        due("7: follows from two clauses", x.implied(0), 1);
        due("7: its contrary does not", x.implied(1), 0);
        x.difference(2, 3, 4);
        x.difference(3, 2, -5);
        due("7: each of two differences is free", x.implied(10) + x.implied(12), 0);
        x.clause(10, -1, -1, -1);
        due("7: x3 - x2 >= -4, so not <= -5", x.implied(13), 1);
        x.clause(12, -1, -1, -1);
        for (int literal = 0; literal < 14; literal++) {
            due("7: all holds where there is no model", x.implied(literal), 1);
        }
        due("7: but a literal it must be", x.implied(14), REFUSED);
    }

    private static void greatest() {
        DifferenceDesk x = new DifferenceDesk();
        due("8: free variables", x.greatest(3, 1), UNBOUNDED);
        x.difference(3, 1, 7);
        due("8: a difference that need not hold", x.greatest(3, 1), UNBOUNDED);
        x.push();
        x.clause(10, -1, -1, -1);
        due("8: one that holds", x.greatest(3, 1), 7);
        due("8: the other way round", x.greatest(1, 3), UNBOUNDED);
        x.pop();
        x.push();
        x.clause(11, -1, -1, -1);
        due("8: one that does not hold, the other way round", x.greatest(1, 3), -8);
        due("8: one that does not hold", x.greatest(3, 1), UNBOUNDED);
        x.difference(1, 3, -8);
        x.clause(12, -1, -1, -1);
        due("8: the same said twice", x.greatest(1, 3), -8);
        x.difference(1, 3, -9);
        x.clause(15, -1, -1, -1);
        due("8: one value is left", x.greatest(1, 3), -8);
        due("8: one value is left, the other way round", x.greatest(3, 1), 8);
    }

    private static void greatestAtTheEdges() {
        DifferenceDesk x = new DifferenceDesk();
        x.push();
        for (int v = 0; v < 4; v++) {
            x.difference(v, v + 1, 1000);
            x.clause(10 + 2 * v, -1, -1, -1);
        }
        due("8: four times 1000", x.greatest(0, 4), 4000);
        due("8: twice 1000", x.greatest(1, 3), 2000);
        due("8: four times 1000, the other way round", x.greatest(4, 0), UNBOUNDED);
        x.difference(0, 4, -1000);
        x.clause(18, -1, -1, -1);
        due("8: shorter is the straight way", x.greatest(0, 4), -1000);
        x.pop();
        for (int v = 0; v < 4; v++) {
            x.difference(v, v + 1, 1000);
            x.clause(11 + 2 * v, -1, -1, -1);
        }
        due("8: four times -1001", x.greatest(4, 0), -4004);
        x.difference(0, 4, 1000);
        due("8: the fifth can't hold", x.implied(19), 1);
        due("8: the fifth changes nothing", x.greatest(4, 0), -4004);
        x.clause(18, -1, -1, -1);
        due("8: no integers are left", x.greatest(4, 0), NONE);
    }

    private static void greatestOverSeveralPatterns() {
        DifferenceDesk x = new DifferenceDesk();
        x.difference(0, 1, 3);
        x.difference(0, 1, -4);
        x.difference(0, 2, 1);
        x.difference(2, 1, 5);
        x.clause(10, 12, -1, -1);
        due("8: the weaker of two", x.greatest(0, 1), 3);
        x.clause(11, 0, -1, -1);
        due("8: the weaker one if a truth is yes", x.greatest(0, 1), 3);
        x.clause(1, 12, -1, -1);
        due("8: the truth takes the stronger one with it", x.greatest(0, 1), -4);
        DifferenceDesk y = new DifferenceDesk();
        y.difference(0, 1, 3);
        y.difference(0, 2, 1);
        y.difference(2, 1, 5);
        y.clause(10, 12, -1, -1);
        y.clause(10, 14, -1, -1);
        due("8: straight 3 or by way of x2 6", y.greatest(0, 1), 6);
        y.clause(10, 0, -1, -1);
        y.clause(1, -1, -1, -1);
        due("8: by way of x2 is out", y.greatest(0, 1), 3);
    }

    private static void greatestWithoutAnswer() {
        DifferenceDesk x = new DifferenceDesk();
        for (int bad : new int[] {-1, 5, 6, -2, Integer.MIN_VALUE, Integer.MAX_VALUE}) {
            due("8: i = " + bad, x.greatest(bad, 0), NONE);
            due("8: j = " + bad, x.greatest(0, bad), NONE);
            due("8: both " + bad, x.greatest(bad, bad), NONE);
        }
        for (int v = 0; v < 5; v++) {
            due("8: equal", x.greatest(v, v), NONE);
        }
        x.clause(-1, -1, -1, -1);
        due("8: no model", x.greatest(0, 1), NONE);
    }

    private static void patterns() {
        DifferenceDesk x = new DifferenceDesk();
        x.difference(0, 1, 0);
        due("9: one difference", x.patterns(), 64);
        x.difference(1, 0, 0);
        due("9: both ways, one must hold", x.patterns(), 32 * 3);
        x.difference(1, 0, -1);
        due("9: the third says the contrary of the first", x.patterns(), 32 * 3);
        x.difference(2, 3, 0);
        due("9: a fourth apart from them", x.patterns(), 32 * 6);
        x.difference(3, 4, 0);
        due("9: a fifth", x.patterns(), 32 * 12);
        x.clause(10, 0, -1, -1);
        due("9: with a clause", x.patterns(), 16 * 12 + 16 * 8);
        DifferenceDesk y = new DifferenceDesk();
        for (int n = 0; n < 5; n++) {
            y.difference(n, n == 4 ? 0 : n + 1, n - 1000);
        }
        due("9: five in a round can't all hold", y.patterns(), 32 * 31);
        DifferenceDesk z = new DifferenceDesk();
        for (int n = 0; n < 4; n++) {
            z.difference(n, n + 1, 1);
        }
        due("9: four in a row", z.patterns(), 512);
        z.difference(0, 4, 1000);
        due("9: four that hold make the fifth hold", z.patterns(), 1024 - 32);
    }

    private static void settled() {
        DifferenceDesk x = new DifferenceDesk();
        x.clause(2, -1, -1, -1);
        due("10: one yes", x.settled(), 1);
        x.clause(9, -1, -1, -1);
        due("10: one no too", x.settled(), 2);
        x.difference(0, 1, 0);
        x.difference(0, 1, -1);
        due("10: two free differences", x.settled(), 2);
        x.clause(12, -1, -1, -1);
        due("10: one draws the other with it", x.settled(), 4);
        x.push();
        x.clause(0, -1, -1, -1);
        x.clause(4, -1, -1, -1);
        x.clause(6, -1, -1, -1);
        due("10: all of them", x.settled(), 7);
        x.clause(3, -1, -1, -1);
        due("10: no pattern", x.settled(), 0);
        x.pop();
        due("10: back", x.settled(), 4);
        x.clause(0, 4, -1, -1);
        x.clause(1, 5, -1, -1);
        due("10: just one of two holds, but which is open", x.settled(), 4);
    }

    private static void price() {
        DifferenceDesk x = new DifferenceDesk();
        for (int bad : new int[] {-1, -2, 10, 11, 20, Integer.MIN_VALUE, Integer.MAX_VALUE}) {
            due("11: price of " + bad, x.price(bad, 1), REFUSED);
        }
        due("11: set", x.price(9, 1000), 0);
        for (int bad : new int[] {-1, 1001, Integer.MIN_VALUE, Integer.MAX_VALUE}) {
            due("11: a price of " + bad, x.price(9, bad), REFUSED);
        }
        due("11: the refused ones changed nothing", x.price(9, 999), 1000);
        due("11: set again", x.price(9, 0), 999);
        due("11: the other literal has its own", x.price(8, 3), 0);
        due("11: to zero", x.price(9, 1), 0);
        due("11: the other literal's again", x.price(8, 4), 3);
        x.push();
        due("11: at the next level", x.price(8, 5), 4);
        x.pop();
        due("11: prices stay at a pop", x.price(8, 6), 5);
        due("11: prices are no part of the size", x.size(), 0);
    }

    private static void priceOfAnAtomMadeAgain() {
        DifferenceDesk x = new DifferenceDesk();
        x.difference(0, 1, 0);
        due("11: of the kept atom", x.price(10, 11), 0);
        due("11: of the kept atom's contrary", x.price(11, 12), 0);
        x.push();
        x.difference(0, 1, 0);
        due("11: of a new atom", x.price(12, 13), 0);
        due("11: of a new atom's contrary", x.price(13, 14), 0);
        due("11: costs of both", x.cheapest(), 24);
        x.pop();
        due("11: of a gone atom", x.price(12, 1), REFUSED);
        due("11: a gone atom costs nothing", x.cheapest(), 11);
        x.difference(0, 1, 0);
        due("11: the atom made again costs nothing", x.cheapest(), 11);
        due("11: 0 when the atom is made", x.price(12, 1), 0);
        due("11: 0 when the atom is made, its contrary too", x.price(13, 1), 0);
        due("11: the kept atom's stays", x.price(10, 0), 11);
        due("11: the kept atom's contrary's stays", x.price(11, 0), 12);
    }

    private static void cheapest() {
        DifferenceDesk x = new DifferenceDesk();
        for (int literal = 0; literal < 10; literal++) {
            x.price(literal, 1000);
        }
        due("12: five times the most", x.cheapest(), 5000);
        for (int n = 0; n < 5; n++) {
            x.difference(0, 1, n);
            x.price(10 + 2 * n, 1000);
            x.price(11 + 2 * n, 1000);
        }
        due("12: ten times the most", x.cheapest(), 10000);
        x.price(10, 1);
        due("12: one is cheaper", x.cheapest(), 9001);
        x.price(13, 1);
        due("12: it does not go with the other", x.cheapest(), 9001);
        x.price(11, 2);
        due("12: but its contrary does", x.cheapest(), 8003);
        x.clause(12, -1, -1, -1);
        due("12: if no clause stands against it", x.cheapest(), 9001);
    }

    private static void first() {
        DifferenceDesk x = new DifferenceDesk();
        x.clause(0, 2, -1, -1);
        due("13: atom 0 counts more than atom 1", x.first(), 2);
        x.push();
        x.clause(3, 8, -1, -1);
        due("13: atom 0 counts more than 1 and 4 together", x.first(), 18);
        x.clause(3, -1, -1, -1);
        due("13: there is no other way", x.first(), 1);
        x.pop();
        x.difference(0, 1, 0);
        x.difference(1, 0, 0);
        due("13: atom 5 counts more than atom 6", x.first(), 2 + 64);
        x.clause(10, 8, -1, -1);
        due("13: atom 4 counts more than atom 5", x.first(), 2 + 32);
        x.price(3, 1);
        x.price(2, 1000);
        due("13: prices count for nothing", x.first(), 2 + 32);
        DifferenceDesk y = new DifferenceDesk();
        for (int n = 0; n < 5; n++) {
            y.difference(0, 1, n);
            y.clause(2 * n, -1, -1, -1);
        }
        due("13: all truths", y.first(), 31);
        y.clause(10, -1, -1, -1);
        due("13: all atoms", y.first(), 1023);
    }

    private static void firstCheapest() {
        DifferenceDesk x = new DifferenceDesk();
        x.clause(0, 2, 4, -1);
        x.price(0, 2);
        x.price(2, 2);
        x.price(4, 3);
        due("14: of two at the same cost the first", x.firstCheapest(), 2);
        due("14: the first of all costs more", x.first(), 4);
        x.price(7, 1);
        due("14: atom 3 is cheaper yes", x.firstCheapest(), 2 + 8);
        x.price(6, 1);
        due("14: both cost the same, no comes first", x.firstCheapest(), 2);
        x.difference(0, 1, 0);
        x.price(11, 1);
        due("14: a difference is cheaper yes", x.firstCheapest(), 2 + 32);
        x.price(10, 2);
        due("14: a difference is cheaper no", x.firstCheapest(), 2);
        x.price(1, 1);
        due("14: now atom 0 is cheaper", x.firstCheapest(), 1);
        due("14: asking changed nothing", x.size(), 1 + 8);
    }

    private static void noPossiblePattern() {
        DifferenceDesk x = new DifferenceDesk();
        x.push();
        x.clause(-1, -1, -1, -1);
        due("6: check without a model", x.check(-1, -1, -1), 0);
        due("9: patterns without a model", x.patterns(), 0);
        due("10: settled without a model", x.settled(), 0);
        due("12: cheapest without a model", x.cheapest(), NONE);
        due("13: first without a model", x.first(), -1);
        due("14: firstCheapest without a model", x.firstCheapest(), -1);
        x.pop();
        due("9: patterns after the pop", x.patterns(), 32);
        due("14: firstCheapest after the pop", x.firstCheapest(), 0);
    }

    private static void size() {
        DifferenceDesk x = new DifferenceDesk();
        x.difference(0, 1, 0);
        due("15: a difference", x.size(), 1);
        x.clause(-1, -1, -1, -1);
        due("15: a clause without literals counts", x.size(), 9);
        x.push();
        due("15: a level", x.size(), 265);
        x.push();
        x.clause(0, 1, -1, -1);
        x.difference(0, 1, 0);
        due("15: two levels", x.size(), 2 + 16 + 512);
        x.pop();
        due("15: one back", x.size(), 265);
    }

    private static void refusedBeforeFull() {
        DifferenceDesk x = new DifferenceDesk();
        for (int n = 0; n < 5; n++) {
            x.difference(n, (n + 1) % 5, 2);
            x.price(10 + 2 * n, 3);
            x.price(11 + 2 * n, 4);
        }
        due("16: the sixth difference", x.difference(0, 1, 2), FULL);
        due("16: wrong i before FULL", x.difference(5, 1, 2), REFUSED);
        due("16: wrong j before FULL", x.difference(0, -1, 2), REFUSED);
        due("16: equal before FULL", x.difference(1, 1, 2), REFUSED);
        due("16: wrong c before FULL", x.difference(0, 1, -1001), REFUSED);
        for (int literal = 10; literal < 20; literal++) {
            due("16: the prices are as they were", x.price(literal, 1), 3 + literal % 2);
        }
        for (int n = 0; n < 24; n++) {
            x.clause(10, 12, 14, 16);
        }
        long before = x.patterns();
        due("16: the 25th clause", x.clause(0, -1, -1, -1), FULL);
        due("16: the 25th clause without literals", x.clause(-1, -1, -1, -1), FULL);
        due("16: wrong a before FULL", x.clause(20, -1, -1, -1), REFUSED);
        due("16: wrong b before FULL", x.clause(-1, -2, -1, -1), REFUSED);
        due("16: wrong c before FULL", x.clause(-1, -1, 21, -1), REFUSED);
        due("16: wrong d before FULL", x.clause(-1, -1, -1, 20), REFUSED);
        due("16: the patterns are as they were", x.patterns(), before);
        due("16: the size is as it was", x.size(), 5 + 8 * 24);
        due("16: a push still goes", x.push(), 1);
        due("16: FULL at the next level too", x.clause(0, -1, -1, -1), FULL);
        due("16: and back", x.pop(), 0);
    }

    private static void objectsAreApart() {
        DifferenceDesk x = new DifferenceDesk();
        DifferenceDesk y = new DifferenceDesk();
        x.difference(0, 1, 0);
        x.clause(0, -1, -1, -1);
        x.push();
        x.price(0, 7);
        due("1: another object is as it was", y.size(), 0);
        due("1: and has its own prices", y.price(0, 1), 0);
        due("1: and its own patterns", y.patterns(), 32);
    }

    private static void exampleOfTheReadme() {
        DifferenceDesk desk = new DifferenceDesk();
        int near = desk.difference(0, 1, 5);
        due("README: the atom", near, 5);
        due("README: it holds, or truth 0 does", desk.clause(2 * near, 0, -1, -1), 1);
        due("README: truth 0 may be yes instead", desk.greatest(0, 1), UNBOUNDED);
        due("README: push", desk.push(), 1);
        due("README: truth 0 is no", desk.clause(1, -1, -1, -1), 2);
        due("README: then the difference is bounded", desk.greatest(0, 1), 5);
        due("README: then it is implied", desk.implied(2 * near), 1);
        due("README: pop", desk.pop(), 0);
        due("README: the last clause is gone", desk.size(), 9);
    }
}
