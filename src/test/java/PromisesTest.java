/** Each promise by its number: ordinary inputs, edges and wrong inputs, with answers worked out by hand. */
public final class PromisesTest {
    private static final int BAD = -1000000;
    private static final int NONE = -1000001;
    private static final int[] WRONG_SIDES = {-1, 2, 3, Integer.MIN_VALUE, Integer.MAX_VALUE};
    private static final int[] EXTREMES = {Integer.MIN_VALUE, Integer.MIN_VALUE + 1, Integer.MAX_VALUE};

    private static int wrong = 0;
    private static int promise = 0;

    private static void due(String call, long got, long want) {
        if (got != want) {
            wrong++;
            System.out.println("promise " + promise + ": " + call + " answered " + got + ", due is " + want);
        }
    }

    private static void due(String call, boolean got, boolean want) {
        due(call, got ? 1 : 0, want ? 1 : 0);
    }

    /** A game with its payments told row by row. */
    private static BimatrixGames game(int rows, int columns, int[] first, int[] second) {
        BimatrixGames g = new BimatrixGames(rows, columns);
        for (int i = 0; i < rows; i++) {
            for (int j = 0; j < columns; j++) {
                g.pay(0, 3 * i + j, first[columns * i + j]);
                g.pay(1, 3 * i + j, second[columns * i + j]);
            }
        }
        return g;
    }

    private static BimatrixGames againstEachOther(int rows, int columns, int... first) {
        int[] second = new int[first.length];
        for (int n = 0; n < first.length; n++) {
            second[n] = -first[n];
        }
        return game(rows, columns, first, second);
    }

    private static BimatrixGames dilemma() {
        return game(2, 2, new int[] {3, 0, 5, 1}, new int[] {3, 5, 0, 1});
    }

    private static BimatrixGames battle() {
        return game(2, 2, new int[] {3, 0, 0, 2}, new int[] {2, 0, 0, 3});
    }

    private static BimatrixGames sameNumber() {
        int[] one = {1, 0, 0, 0, 1, 0, 0, 0, 1};
        return game(3, 3, one, one);
    }

    /** The mixes of both sides, as parts and wholes. */
    private static void dueMixes(BimatrixGames g, int k, int[] x, int[] y) {
        for (int side = 0; side < 2; side++) {
            int[] parts = side == 0 ? x : y;
            for (int i = 0; i < 3; i++) {
                due("part(" + k + ", " + side + ", " + i + ")", g.part(k, side, i), parts[i]);
            }
            due("whole(" + k + ", " + side + ")", g.whole(k, side), parts[0] + parts[1] + parts[2]);
        }
    }

    private static int[] parts(int a, int b, int c) {
        return new int[] {a, b, c};
    }

    private static void dueGets(BimatrixGames g, int k, int side, int top, int bottom) {
        due("getsTop(" + k + ", " + side + ")", g.getsTop(k, side), top);
        due("getsBottom(" + k + ", " + side + ")", g.getsBottom(k, side), bottom);
    }

    private static void dueSure(BimatrixGames g, int side, int top, int bottom) {
        due("sureTop(" + side + ")", g.sureTop(side), top);
        due("sureBottom(" + side + ")", g.sureBottom(side), bottom);
    }

    private static boolean inTable(int rows, int columns, int at) {
        return at >= 0 && at < 9 && at / 3 < rows && at % 3 < columns;
    }

    private static void newObject() {
        promise = 1;
        int[] asked = {Integer.MIN_VALUE, -1, 0, 1, 2, 3, 4, 9, Integer.MAX_VALUE};
        int[] made = {1, 1, 1, 1, 2, 3, 3, 3, 3};
        for (int r = 0; r < asked.length; r++) {
            for (int c = 0; c < asked.length; c++) {
                BimatrixGames g = new BimatrixGames(asked[r], asked[c]);
                String name = "(" + asked[r] + ", " + asked[c] + ")";
                for (int side = 0; side < 2; side++) {
                    for (int at = -1; at < 10; at++) {
                        int want = inTable(made[r], made[c], at) ? 0 : BAD;
                        due(name + ".paid(" + side + ", " + at + ")", g.paid(side, at), want);
                    }
                }
                due(name + ".equilibria()", g.equilibria(), made[r] * made[c]);
                due(name + ".left()", g.left(), (1 << made[r]) - 1 | (1 << made[c]) - 1 << 3);
            }
        }
    }

    private static void payAndPaid() {
        for (int rows = 1; rows <= 3; rows++) {
            for (int columns = 1; columns <= 3; columns++) {
                BimatrixGames g = new BimatrixGames(rows, columns);
                int[] held = new int[18];
                int next = 0;
                for (int at = -4; at < 14; at++) {
                    for (int side = -1; side < 3; side++) {
                        boolean fits = inTable(rows, columns, at) && side >= 0 && side < 2;
                        int value = next++ % 19 - 9;
                        String place = rows + "x" + columns + " (" + side + ", " + at;
                        promise = 2;
                        due("pay" + place + ", " + value + ")", g.pay(side, at, value), fits);
                        if (fits) {
                            held[9 * side + at] = value;
                        }
                        due("pay" + place + ", 10)", g.pay(side, at, 10), false);
                        due("pay" + place + ", -10)", g.pay(side, at, -10), false);
                        promise = 3;
                        due("paid" + place + ")", g.paid(side, at), fits ? value : BAD);
                    }
                }
                promise = 3;
                for (int n = 0; n < 18; n++) {
                    int want = inTable(rows, columns, n % 9) ? held[n] : BAD;
                    due("paid(" + n / 9 + ", " + n % 9 + ") later", g.paid(n / 9, n % 9), want);
                }
            }
        }
        extremePays();
    }

    private static void extremePays() {
        BimatrixGames g = new BimatrixGames(3, 3);
        promise = 2;
        due("pay(0, 8, 9)", g.pay(0, 8, 9), true);
        due("pay(1, 0, -9)", g.pay(1, 0, -9), true);
        for (int n : EXTREMES) {
            due("pay(" + n + ", 8, 1)", g.pay(n, 8, 1), false);
            due("pay(0, " + n + ", 1)", g.pay(0, n, 1), false);
            due("pay(0, 8, " + n + ")", g.pay(0, 8, n), false);
        }
        promise = 3;
        for (int n : EXTREMES) {
            due("paid(" + n + ", 0)", g.paid(n, 0), BAD);
            due("paid(0, " + n + ")", g.paid(0, n), BAD);
        }
        due("paid(0, 8)", g.paid(0, 8), 9);
        due("paid(1, 0)", g.paid(1, 0), -9);
    }

    private static void pure() {
        promise = 4;
        due("dilemma: pure()", dilemma().pure(), 1 << 4);
        due("battle: pure()", battle().pure(), 1 | 1 << 4);
        due("pennies: pure()", againstEachOther(2, 2, 1, -1, -1, 1).pure(), 0);
        due("same number: pure()", sameNumber().pure(), 1 | 1 << 4 | 1 << 8);
        due("all 0: pure()", new BimatrixGames(3, 3).pure(), 511);
        due("all 0, 2x3: pure()", new BimatrixGames(2, 3).pure(), 7 | 7 << 3);
        due("all 0, 3x1: pure()", new BimatrixGames(3, 1).pure(), 1 | 1 << 3 | 1 << 6);
        // A side for which all is the same leaves the choice to the other.
        BimatrixGames one = game(2, 2, new int[] {0, 0, 0, 0}, new int[] {1, 2, 4, 3});
        due("one side: pure()", one.pure(), 1 << 1 | 1 << 3);
        // An equal payment elsewhere does not undo an equilibrium.
        BimatrixGames tie = game(2, 2, new int[] {1, 0, 1, 0}, new int[] {0, 0, 0, 1});
        due("tie: pure()", tie.pure(), 1 | 1 << 1 | 1 << 4);
    }

    private static void equilibria() {
        promise = 5;
        due("dilemma: equilibria()", dilemma().equilibria(), 1);
        due("battle: equilibria()", battle().equilibria(), 3);
        due("pennies: equilibria()", againstEachOther(2, 2, 1, -1, -1, 1).equilibria(), 1);
        due("same number: equilibria()", sameNumber().equilibria(), 7);
        due("1x1: equilibria()", new BimatrixGames(1, 1).equilibria(), 1);
        due("all 0: equilibria()", new BimatrixGames(3, 3).equilibria(), 9);
        // Side 0 does not care; side 1 likes the column of the row: x = 1/2 is a corner, since there the loss bends.
        BimatrixGames bent = game(2, 2, new int[] {0, 0, 0, 0}, new int[] {1, 0, 0, 1});
        due("bent: equilibria()", bent.equilibria(), 4);
        dueMixes(bent, 0, parts(0, 1, 0), parts(0, 1, 0));
        dueMixes(bent, 1, parts(1, 1, 0), parts(0, 1, 0));
        dueMixes(bent, 2, parts(1, 1, 0), parts(1, 0, 0));
        dueMixes(bent, 3, parts(1, 0, 0), parts(1, 0, 0));
    }

    private static void part() {
        promise = 6;
        BimatrixGames g = sameNumber();
        // Smaller x(0) first, then x(1), x(2): 0 0 1, 0 1/2 1/2, 0 1 0, 1/3 1/3 1/3, 1/2 0 1/2, 1/2 1/2 0, 1 0 0.
        int[][] order = {parts(0, 0, 1), parts(0, 1, 1), parts(0, 1, 0), parts(1, 1, 1), parts(1, 0, 1),
            parts(1, 1, 0), parts(1, 0, 0)};
        for (int k = 0; k < 7; k++) {
            dueMixes(g, k, order[k], order[k]);
        }
        for (int i : new int[] {-1, 3, 4, Integer.MIN_VALUE, Integer.MAX_VALUE}) {
            due("part(3, 0, " + i + ")", g.part(3, 0, i), 0);
            due("part(3, 1, " + i + ")", g.part(3, 1, i), 0);
        }
        for (int k : new int[] {-1, 7, 8, Integer.MIN_VALUE, Integer.MAX_VALUE}) {
            due("part(" + k + ", 0, 0)", g.part(k, 0, 0), NONE);
            due("part(" + k + ", 1, 0)", g.part(k, 1, 0), NONE);
        }
        for (int side : WRONG_SIDES) {
            due("part(0, " + side + ", 0)", g.part(0, side, 0), BAD);
        }
        // The same x with several y: a smaller y(0) first, then y(1).
        BimatrixGames flat = new BimatrixGames(2, 3);
        int[][] columns = {parts(0, 0, 1), parts(0, 1, 0), parts(1, 0, 0)};
        for (int k = 0; k < 6; k++) {
            dueMixes(flat, k, k < 3 ? parts(0, 1, 0) : parts(1, 0, 0), columns[k % 3]);
        }
        due("2x3: part(5, 0, 2)", flat.part(5, 0, 2), 0);
    }

    private static void whole() {
        promise = 7;
        BimatrixGames g = battle();
        int[] wholes = {1, 5, 1};
        for (int k = 0; k < 3; k++) {
            due("battle: whole(" + k + ", 0)", g.whole(k, 0), wholes[k]);
            due("battle: whole(" + k + ", 1)", g.whole(k, 1), wholes[k]);
        }
        // 4/6 and 2/6 of the rows have the whole 3, not 6; the columns 3/9 and 6/9 likewise.
        BimatrixGames low = game(2, 2, new int[] {6, 0, 0, 3}, new int[] {0, 2, 4, 0});
        due("low: equilibria()", low.equilibria(), 1);
        dueMixes(low, 0, parts(2, 1, 0), parts(1, 2, 0));
        for (int k : new int[] {-1, 3, Integer.MIN_VALUE, Integer.MAX_VALUE}) {
            due("whole(" + k + ", 0)", g.whole(k, 0), NONE);
            due("whole(" + k + ", 1)", g.whole(k, 1), NONE);
        }
        for (int side : WRONG_SIDES) {
            due("whole(0, " + side + ")", g.whole(0, side), BAD);
        }
    }

    private static void gets() {
        promise = 8;
        BimatrixGames g = battle();
        dueGets(g, 0, 0, 2, 1);
        dueGets(g, 0, 1, 3, 1);
        dueGets(g, 1, 0, 6, 5);
        dueGets(g, 1, 1, 6, 5);
        dueGets(g, 2, 0, 3, 1);
        dueGets(g, 2, 1, 2, 1);
        BimatrixGames below = againstEachOther(2, 2, -9, 0, 0, -9);
        dueGets(below, 0, 0, -9, 2);
        dueGets(below, 0, 1, 9, 2);
        BimatrixGames nothing = againstEachOther(2, 2, 5, -5, -5, 5);
        dueGets(nothing, 0, 0, 0, 1);
        dueGets(nothing, 0, 1, 0, 1);
        for (int k : new int[] {-1, 3, Integer.MIN_VALUE, Integer.MAX_VALUE}) {
            promise = 8;
            due("getsTop(" + k + ", 0)", g.getsTop(k, 0), NONE);
            due("getsTop(" + k + ", 1)", g.getsTop(k, 1), NONE);
            promise = 9;
            due("getsBottom(" + k + ", 0)", g.getsBottom(k, 0), NONE);
            due("getsBottom(" + k + ", 1)", g.getsBottom(k, 1), NONE);
        }
        for (int side : WRONG_SIDES) {
            promise = 8;
            due("getsTop(0, " + side + ")", g.getsTop(0, side), BAD);
            promise = 9;
            due("getsBottom(0, " + side + ")", g.getsBottom(0, side), BAD);
        }
    }

    private static void sure() {
        promise = 10;
        dueSure(battle(), 0, 6, 5);
        dueSure(battle(), 1, 6, 5);
        dueSure(dilemma(), 0, 1, 1);
        dueSure(againstEachOther(3, 3, 0, -1, 1, 1, 0, -1, -1, 1, 0), 0, 0, 1);
        dueSure(new BimatrixGames(1, 1), 1, 0, 1);
        // One row: the worst column. For side 1 then: its best column.
        BimatrixGames row = game(1, 3, new int[] {9, -9, 4}, new int[] {-4, 7, -9});
        dueSure(row, 0, -9, 1);
        dueSure(row, 1, 7, 1);
        // All that side 0 gets is the least payment.
        BimatrixGames least = game(2, 2, new int[] {-9, -9, -9, -9}, new int[] {9, 9, 9, 9});
        dueSure(least, 0, -9, 1);
        dueSure(least, 1, 9, 1);
        // A side counts its own payments, not what it wins over the other: x = (1/3, 2/3) gets 2/3 for sure.
        BimatrixGames mixed = game(2, 2, new int[] {2, 0, 0, 1}, new int[] {-1, -4, -3, -2});
        dueSure(mixed, 0, 2, 3);
        dueSure(mixed, 1, -5, 2);
        // Fractions in lowest terms: x = (1/2, 1/2) gets -8/2.
        dueSure(againstEachOther(2, 2, -8, 0, 0, -8), 0, -4, 1);
        for (int side : WRONG_SIDES) {
            promise = 10;
            due("sureTop(" + side + ")", battle().sureTop(side), BAD);
            promise = 11;
            due("sureBottom(" + side + ")", battle().sureBottom(side), BAD);
        }
    }

    private static void replies() {
        promise = 12;
        due("dilemma: replies(0)", dilemma().replies(0), 2);
        due("dilemma: replies(1)", dilemma().replies(1), 2);
        due("battle: replies(0)", battle().replies(0), 3);
        // No row beats row 2, yet a mix of both others gets 5/2 at least; where row 2 gets just that, it is a reply.
        int[] none = {0, 0, 0, 0, 0, 0};
        due("2, 2: replies(0)", game(3, 2, new int[] {5, 0, 0, 5, 2, 2}, none).replies(0), 3);
        due("2, 3: replies(0)", game(3, 2, new int[] {5, 0, 0, 5, 2, 3}, none).replies(0), 7);
        due("3, 3: replies(0)", game(3, 2, new int[] {5, 0, 0, 5, 3, 3}, none).replies(0), 7);
        // The same for columns.
        due("2, 2: replies(1)", game(2, 3, none, new int[] {5, 0, 2, 0, 5, 2}).replies(1), 3);
        due("2, 3: replies(1)", game(2, 3, none, new int[] {5, 0, 2, 0, 5, 3}).replies(1), 7);
        // No row is better against all columns, yet row 1 is as good only against column 0: it is a reply to that.
        due("weak: replies(0)", game(2, 2, new int[] {1, 1, 1, 0}, new int[4]).replies(0), 3);
        due("1x3: replies(0)", new BimatrixGames(1, 3).replies(0), 1);
        due("1x3: replies(1)", new BimatrixGames(1, 3).replies(1), 7);
        for (int side : WRONG_SIDES) {
            due("replies(" + side + ")", battle().replies(side), BAD);
        }
    }

    private static void left() {
        promise = 13;
        due("dilemma: left()", dilemma().left(), 2 | 2 << 3);
        due("battle: left()", battle().left(), 3 | 3 << 3);
        due("all 0, 3x2: left()", new BimatrixGames(3, 2).left(), 7 | 3 << 3);
        due("1x1: left()", new BimatrixGames(1, 1).left(), 1 | 1 << 3);
        // Column 2 goes, then row 1, then column 0: row 0 and column 1 are left.
        BimatrixGames chain = game(2, 3, new int[] {1, 1, 0, 0, 0, 2}, new int[] {0, 2, 1, 3, 1, 0});
        due("chain: replies(0)", chain.replies(0), 3);
        due("chain: replies(1)", chain.replies(1), 3);
        due("chain: left()", chain.left(), 1 | 2 << 3);
        // One is taken out each time, four times: column 2, row 2, column 1, row 1.
        BimatrixGames long3 = game(3, 3, new int[] {3, 1, 1, 2, 3, 1, 1, 2, 3}, new int[] {3, 2, 1, 3, 2, 0, 0, 2, 1});
        due("long: replies(0)", long3.replies(0), 7);
        due("long: replies(1)", long3.replies(1), 3);
        due("long: left()", long3.left(), 1 | 1 << 3);
        // What is beaten only by a mix is taken out too, and with it what column 1 was good for.
        BimatrixGames byMix = game(3, 2, new int[] {6, 0, 0, 6, 2, 2}, new int[] {1, 0, 1, 0, 0, 1});
        due("by mix: left()", byMix.left(), 1 | 1 << 3);
    }

    private static void exchange() {
        promise = 14;
        BimatrixGames g = game(2, 3, new int[] {1, 2, 3, 4, 5, 6}, new int[] {-1, -2, -3, -4, -5, -6});
        g.exchange();
        for (int i = 0; i < 3; i++) {
            for (int j = 0; j < 3; j++) {
                int was = 3 * j + i + 1;
                due("paid(0, " + (3 * i + j) + ")", g.paid(0, 3 * i + j), j < 2 ? -was : BAD);
                due("paid(1, " + (3 * i + j) + ")", g.paid(1, 3 * i + j), j < 2 ? was : BAD);
            }
        }
        due("pay(0, 7, 8)", g.pay(0, 7, 8), true);
        due("pay(0, 2, 8)", g.pay(0, 2, 8), false);
        g.exchange();
        due("paid(1, 5)", g.paid(1, 5), 8);
        due("paid(0, 5)", g.paid(0, 5), 6);
        due("paid(0, 6)", g.paid(0, 6), BAD);
        BimatrixGames one = game(1, 3, new int[] {0, 0, 5}, new int[] {1, 2, 0});
        one.exchange();
        due("equilibria()", one.equilibria(), 1);
        dueMixes(one, 0, parts(0, 1, 0), parts(1, 0, 0));
        dueGets(one, 0, 0, 2, 1);
        due("left()", one.left(), 2 | 1 << 3);
    }

    private static void orderAndLimits() {
        promise = 15;
        BimatrixGames g = battle();
        due("part(99, 2, 99)", g.part(99, 2, 99), BAD);
        due("part(-1, -1, -1)", g.part(-1, -1, -1), BAD);
        due("part(99, 0, 99)", g.part(99, 0, 99), NONE);
        due("part(-1, 1, -1)", g.part(-1, 1, -1), NONE);
        due("part(0, 0, 99)", g.part(0, 0, 99), 0);
        due("whole(99, 2)", g.whole(99, 2), BAD);
        due("getsTop(99, 2)", g.getsTop(99, 2), BAD);
        due("getsBottom(99, -1)", g.getsBottom(99, -1), BAD);
        // Refused calls, and calls that only ask, leave all as it was.
        due("pay(0, 0, 10)", g.pay(0, 0, 10), false);
        due("pay(1, 0, -10)", g.pay(1, 0, -10), false);
        due("pay(1, 2, 5)", g.pay(1, 2, 5), false);
        due("pay(0, 6, 5)", g.pay(0, 6, 5), false);
        due("pay(2, 0, 5)", g.pay(2, 0, 5), false);
        due("pay(-1, 4, 5)", g.pay(-1, 4, 5), false);
        due("sureTop(5)", g.sureTop(5), BAD);
        due("left()", g.left(), 27);
        for (int side = 0; side < 2; side++) {
            due("paid(" + side + ", 0)", g.paid(side, 0), 3 - side);
            due("paid(" + side + ", 1)", g.paid(side, 1), 0);
            due("paid(" + side + ", 3)", g.paid(side, 3), 0);
            due("paid(" + side + ", 4)", g.paid(side, 4), 2 + side);
        }
        dueMixes(g, 1, parts(3, 2, 0), parts(2, 3, 0));
        due("equilibria()", g.equilibria(), 3);
        // Two objects have nothing in common.
        BimatrixGames h = dilemma();
        due("equilibria() of another", h.equilibria(), 1);
        due("whole(1, 0)", g.whole(1, 0), 5);
        due("whole(1, 0) of another", h.whole(1, 0), NONE);
    }

    /** An object answers all of its 512 calls. */
    private static void manyCalls() {
        promise = 15;
        BimatrixGames g = new BimatrixGames(3, 3);
        for (int n = 0; n < 128; n++) {
            due("pay(0, " + n % 9 + ", 1)", g.pay(0, n % 9, 1), true);
            due("equilibria()", g.equilibria() > 0, true);
            due("pay(0, " + n % 9 + ", 0)", g.pay(0, n % 9, 0), true);
            due("equilibria()", g.equilibria(), 9);
        }
    }

    public static void main(String[] args) {
        newObject();
        payAndPaid();
        pure();
        equilibria();
        part();
        whole();
        gets();
        sure();
        replies();
        left();
        exchange();
        orderAndLimits();
        manyCalls();
        System.out.println(wrong == 0 ? "all answers are as due" : wrong + " answers are not as due");
        if (wrong != 0) {
            System.exit(1);
        }
    }
}
