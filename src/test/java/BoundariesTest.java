/**
 * The boundary cases: for each sentence of the document that names one, a test of its own, under the
 * sentence's words. The answers are worked out by hand, with the reason where it is not plain; what a refused
 * call or an exchange leaves is compared with another object that was made so.
 */
public final class BoundariesTest {
    private static final int BAD = -1000000;
    private static final int NONE = -1000001;
    private static final int LOWEST = Integer.MIN_VALUE;
    private static final int HIGHEST = Integer.MAX_VALUE;
    private static final int[] NO_SIDES = {-1, 2, 3, LOWEST, LOWEST + 1, HIGHEST};
    private static final int[] ZEROS = new int[9];

    private static String sentence = "";
    private static int sentences = 0;
    private static int wrong = 0;

    private static void sentence(String where, String words) {
        sentence = where + ": \"" + words + "\"";
        sentences++;
    }

    private static void due(String call, long got, long want) {
        if (got != want) {
            wrong++;
            System.out.println(sentence + " " + call + " answered " + got + ", due is " + want);
        }
    }

    private static void due(String call, boolean got, boolean want) {
        due(call, got ? 1 : 0, want ? 1 : 0);
    }

    private static void due(String call, String got, String want) {
        if (!got.equals(want)) {
            wrong++;
            System.out.println(sentence + " " + call + " answered " + got + ", due is " + want);
        }
    }

    private static int[] table(int... payments) {
        return payments;
    }

    /** A game with its payments told row by row. */
    private static BimatrixGames game(int rows, int columns, int[] first, int[] second) {
        BimatrixGames g = new BimatrixGames(rows, columns);
        for (int i = 0; i < rows; i++) {
            for (int j = 0; j < columns; j++) {
                g.pay(0, 3 * i + j, first[columns * i + j]);
                g.pay(1, 3 * i + j, second[columns * i + j]);
            }
        }
        return g;
    }

    private static int[] negative(int... payments) {
        int[] turned = new int[payments.length];
        for (int n = 0; n < payments.length; n++) {
            turned[n] = -payments[n];
        }
        return turned;
    }

    private static BimatrixGames battle() {
        return game(2, 2, table(3, 0, 0, 2), table(2, 0, 0, 3));
    }

    private static BimatrixGames dilemma() {
        return game(2, 2, table(3, 0, 5, 1), table(3, 5, 0, 1));
    }

    /** Side 0 does not care, side 1 wants the number of the row: twelve equilibria are listed. */
    private static BimatrixGames twelve() {
        return game(3, 3, ZEROS, table(1, 0, 0, 0, 1, 0, 0, 0, 1));
    }

    private static final String TWELVE =
        "001/1 001/1, 011/2 001/1, 011/2 010/1, 010/1 010/1, "
        + "111/3 001/1, 111/3 010/1, 111/3 100/1, 101/2 001/1, 101/2 100/1, "
        + "110/2 010/1, 110/2 100/1, 100/1 100/1";

    /** The listed equilibria in their order, each as parts/whole of side 0 and of side 1. */
    private static String listed(BimatrixGames g) {
        StringBuilder all = new StringBuilder();
        int count = g.equilibria();
        for (int k = 0; k < count; k++) {
            all.append(k == 0 ? "" : ", ");
            for (int side = 0; side < 2; side++) {
                all.append(side == 0 ? "" : " ");
                for (int i = 0; i < 3; i++) {
                    all.append(g.part(k, side, i));
                }
                all.append('/').append(g.whole(k, side));
            }
        }
        return all.toString();
    }

    private static String gets(BimatrixGames g, int k, int side) {
        return g.getsTop(k, side) + "/" + g.getsBottom(k, side);
    }

    private static String sure(BimatrixGames g, int side) {
        return g.sureTop(side) + "/" + g.sureBottom(side);
    }

    /** All that an object answers about its game. */
    private static String everything(BimatrixGames g) {
        StringBuilder all = new StringBuilder();
        for (int side = 0; side < 2; side++) {
            for (int at = 0; at < 9; at++) {
                all.append(g.paid(side, at)).append(' ');
            }
            all.append(sure(g, side)).append(' ').append(g.replies(side)).append("; ");
        }
        all.append(g.pure()).append(' ').append(g.left()).append("; ").append(listed(g));
        int count = g.equilibria();
        for (int k = 0; k < count; k++) {
            all.append("; ").append(gets(g, k, 0)).append(' ').append(gets(g, k, 1));
        }
        return all.toString();
    }

    private static boolean inTable(int rows, int columns, int at) {
        return at >= 0 && at < 9 && at / 3 < rows && at % 3 < columns;
    }

    // ---- What it is

    private static void atMost512Calls() {
        sentence("What it is", "An object is used for at most 512 calls after it has been made");
        due("call 512: pay(0, 0, 9)", used(511).pay(0, 0, 9), true);
        due("call 512: pay(0, 2, 9)", used(511).pay(0, 2, 9), false);
        due("call 512: paid(1, 4)", used(511).paid(1, 4), 3);
        due("call 512: paid(1, 5)", used(511).paid(1, 5), BAD);
        due("call 512: pure()", used(511).pure(), 17);
        due("call 512: equilibria()", used(511).equilibria(), 3);
        due("call 512: part(1, 0, 0)", used(511).part(1, 0, 0), 3);
        due("call 512: part(3, 0, 0)", used(511).part(3, 0, 0), NONE);
        due("call 512: whole(1, 1)", used(511).whole(1, 1), 5);
        due("call 512: getsTop(1, 0)", used(511).getsTop(1, 0), 6);
        due("call 512: getsBottom(1, 1)", used(511).getsBottom(1, 1), 5);
        due("call 512: sureTop(0)", used(511).sureTop(0), 6);
        due("call 512: sureBottom(1)", used(511).sureBottom(1), 5);
        due("call 512: replies(0)", used(511).replies(0), 3);
        due("call 512: left()", used(511).left(), 27);
        BimatrixGames late = used(510);
        late.pay(0, 4, -9);
        due("call 511: pay(0, 4, -9), call 512: paid(0, 4)", late.paid(0, 4), -9);
        BimatrixGames turned = used(510);
        turned.exchange();
        due("call 511: exchange(), call 512: paid(0, 0)", turned.paid(0, 0), 2);
        for (int kind = 0; kind < 14; kind++) {
            BimatrixGames g = battle();
            for (int call = 9; call <= 511; call++) {
                callAgain(g, kind);
            }
            // An exchange more often by one leaves the sides exchanged.
            due("call 512 after calls of kind " + kind + ": paid(0, 0)", g.paid(0, 0), kind == 13 ? 2 : 3);
        }
    }

    /** One of the fourteen sorts of calls, such that the battle stays what it is or becomes its exchange. */
    private static void callAgain(BimatrixGames g, int kind) {
        switch (kind) {
            case 0 -> g.pay(0, 0, 3);
            case 1 -> g.paid(0, 0);
            case 2 -> g.pure();
            case 3 -> g.equilibria();
            case 4 -> g.part(1, 0, 0);
            case 5 -> g.whole(1, 0);
            case 6 -> g.getsTop(1, 0);
            case 7 -> g.getsBottom(1, 0);
            case 8 -> g.sureTop(0);
            case 9 -> g.sureBottom(0);
            case 10 -> g.replies(0);
            case 11 -> g.left();
            case 12 -> g.pay(0, 0, 10);
            default -> g.exchange();
        }
    }

    /** The battle, after as many calls as told, of every sort, that leave it what it is. */
    private static BimatrixGames used(int calls) {
        BimatrixGames g = battle();
        // The battle itself took 8 calls; an exchange is undone by the next one.
        int more = calls - 8;
        int couples = more / 2;
        for (int n = 0; n < couples; n++) {
            switch (n % 8) {
                case 0 -> { g.exchange(); g.exchange(); }
                case 1 -> { g.pay(0, 0, 9); g.pay(0, 0, 3); }
                case 2 -> { g.pay(2, 0, 9); g.pay(0, 0, 10); }
                case 3 -> { g.equilibria(); g.part(1, 0, 0); }
                case 4 -> { g.whole(9, 0); g.getsTop(1, 1); }
                case 5 -> { g.getsBottom(0, 0); g.sureTop(0); }
                case 6 -> { g.sureBottom(1); g.replies(0); }
                default -> { g.left(); g.pure(); }
            }
        }
        if (more % 2 == 1) {
            g.paid(0, 0);
        }
        return g;
    }

    // ---- Terms

    private static void oneToThree() {
        sentence("Terms", "there are as many rows and as many columns as given, 1 to 3, numbered from 0");
        for (int rows = 1; rows <= 3; rows++) {
            for (int columns = 1; columns <= 3; columns++) {
                BimatrixGames g = new BimatrixGames(rows, columns);
                String name = rows + "x" + columns;
                int last = 3 * (rows - 1) + columns - 1;
                due(name + ": pay(0, 0, 1)", g.pay(0, 0, 1), true);
                due(name + ": pay(1, last, 1)", g.pay(1, last, 1), true);
                due(name + ": the next row", g.pay(0, 3 * rows, 1), false);
                due(name + ": the next column", columns < 3 && g.pay(0, columns, 1), false);
                due(name + ": left()", new BimatrixGames(rows, columns).left(),
                    (1 << rows) - 1 | (1 << columns) - 1 << 3);
            }
        }
    }

    private static void paymentsAtTheirLimits() {
        sentence("Terms", "PAID(0, i, j) and PAID(1, i, j) are whole numbers from -9 to 9");
        int[] coins = table(9, -9, -9, 9);
        BimatrixGames pennies = game(2, 2, coins, negative(coins));
        due("pennies of 9", listed(pennies), "110/2 110/2");
        due("pennies of 9: gets", gets(pennies, 0, 0), "0/1");
        // All rows get 2601/937 against 306/937, 324/937, 307/937, all columns -2601/937 against x.
        int[] far = table(8, 9, -9, 9, -9, 9, -9, 8, 9);
        BimatrixGames g = game(3, 3, far, negative(far));
        due("far: listed", listed(g), "324307306/937 306324307/937");
        due("far: gets 0", gets(g, 0, 0), "2601/937");
        due("far: gets 1", gets(g, 0, 1), "-2601/937");
        due("far: sure 0", sure(g, 0), "2601/937");
        due("far: sure 1", sure(g, 1), "-2601/937");
        int[] most = table(9, 9, 9, 9, 9, 9, 9, 9, 9);
        BimatrixGames flat = game(3, 3, most, negative(most));
        due("all 9 and -9: equilibria()", flat.equilibria(), 9);
        due("all 9 and -9: gets 0", gets(flat, 8, 0), "9/1");
        due("all 9 and -9: gets 1", gets(flat, 8, 1), "-9/1");
        due("all 9 and -9: sure 0", sure(flat, 0), "9/1");
        due("all 9 and -9: sure 1", sure(flat, 1), "-9/1");
    }

    private static void mixesNotBelow0() {
        sentence("Terms", "A MIX of rows gives each row a number that is not below 0, all together 1");
        // What would make both rows get the same in the dilemma is y = (-1, 2): no mix.
        due("dilemma", listed(dilemma()), "010/1 010/1");
        // Columns 0 and 1 would be paid alike for x = (4/3, -1/3).
        due("a row below 0", listed(game(2, 2, ZEROS, table(2, 1, 5, 1))), "010/1 100/1, 100/1 100/1");
        // The same with row 2, and with column 2 for the rows.
        due("the last row below 0", listed(game(3, 2, ZEROS, table(2, 1, 2, 1, 5, 1))),
            "001/1 100/1, 010/1 100/1, 100/1 100/1");
        due("the last column below 0", listed(game(2, 3, table(2, 2, 5, 1, 1, 1), ZEROS)),
            "100/1 001/1, 100/1 010/1, 100/1 100/1");
        // Here they are for x = (1, 0), where row 1 has just 0.
        due("a row with 0", listed(game(2, 2, ZEROS, table(1, 1, 5, 1))),
            "010/1 100/1, 100/1 010/1, 100/1 100/1");
    }

    private static void repliesThatTie() {
        sentence("Terms", "A row is a REPLY to y iff no other row, as a mix, gets side 0 more against y; "
            + "a column is one to x likewise");
        due("rows that tie: pure()", game(2, 1, table(4, 4), table(0, 0)).pure(), 1 | 1 << 3);
        due("rows that differ by 1: pure()", game(2, 1, table(4, 5), table(0, 0)).pure(), 1 << 3);
        due("columns that tie: pure()", game(1, 3, table(0, 0, 0), table(-9, -8, -8)).pure(), 1 << 1 | 1 << 2);
        due("the only row: replies(0)", game(1, 2, table(-9, -9), table(0, 0)).replies(0), 1);
        due("the only column: replies(1)", game(2, 1, table(0, 0), table(-9, -9)).replies(1), 1);
    }

    private static void partsAbove0AreReplies() {
        sentence("Terms", "(x, y) is an EQUILIBRIUM iff every row with x(i) above 0 is a reply to y, "
            + "and every column with y(j) above 0 one to x");
        // Row 1 has part 0 and need not be a reply; a reply, row 2, need not have a part.
        due("parts of 0", listed(game(3, 1, table(5, 4, 5), table(0, 0, 0))), "001/1 100/1, 100/1 100/1");
        due("parts of 0, columns", listed(game(1, 3, table(0, 0, 0), table(5, 4, 5))),
            "100/1 001/1, 100/1 100/1");
        // x = (1/2, 1/2) is a corner, but row 1 is never a reply; so y = (1/2, 1/2) and column 1.
        due("a corner with a row that is none", listed(game(2, 2, table(1, 1, 0, 0), table(1, 0, 0, 1))),
            "100/1 100/1");
        due("a corner with a column that is none", listed(game(2, 2, table(1, 0, 0, 1), table(1, 0, 1, 0))),
            "100/1 100/1");
    }

    private static void lossIsTheMost() {
        sentence("Terms", "The LOSS of x is the most that a column, as a mix, gets side 1 against it; "
            + "that of y the most that a row gets side 0");
        // Columns 0 and 1 cross at x = (1/2, 1/2) below column 2: there the loss does not bend.
        due("a crossing below", listed(game(2, 3, ZEROS, table(1, 0, 1, 0, 1, 1))),
            "010/1 001/1, 010/1 010/1, 100/1 001/1, 100/1 100/1");
        // Here column 2 goes through the crossing, and all three are replies there.
        due("a crossing of three", listed(game(2, 3, ZEROS, table(2, 0, 1, 0, 2, 1))),
            "010/1 010/1, 110/2 001/1, 110/2 010/1, 110/2 100/1, 100/1 100/1");
        // The same for the loss of y.
        due("a crossing of rows below", listed(game(3, 2, table(1, 0, 0, 1, 1, 1), ZEROS)),
            "001/1 010/1, 001/1 100/1, 010/1 010/1, 100/1 100/1");
        due("a crossing of three rows", listed(game(3, 2, table(2, 0, 0, 2, 1, 1), ZEROS)),
            "001/1 110/2, 010/1 010/1, 010/1 110/2, 100/1 110/2, 100/1 100/1");
    }

    private static void corners() {
        sentence("Terms", "A mix is a CORNER iff it is not the middle of two other mixes the middle of whose "
            + "losses is its loss");
        due("the only mixes", listed(new BimatrixGames(1, 1)), "100/1 100/1");
        due("no bend: columns alike", listed(game(2, 2, ZEROS, table(3, 3, 1, 1))),
            "010/1 010/1, 010/1 100/1, 100/1 010/1, 100/1 100/1");
        due("no bend: one column better", listed(game(2, 2, ZEROS, table(1, 0, 1, 0))),
            "010/1 100/1, 100/1 100/1");
        due("a bend", listed(game(2, 2, ZEROS, table(1, 0, 0, 1))),
            "010/1 010/1, 110/2 010/1, 110/2 100/1, 100/1 100/1");
        due("a bend for y", listed(game(2, 2, table(1, 0, 0, 1), ZEROS)),
            "010/1 010/1, 010/1 110/2, 100/1 110/2, 100/1 100/1");
        // The loss bends where x(0) = 1/2: the ends of that line are corners, what lies between is not.
        due("a line", listed(game(3, 2, ZEROS, table(1, 0, 0, 1, 0, 1))),
            "001/1 010/1, 010/1 010/1, 101/2 010/1, 101/2 100/1, 110/2 010/1, 110/2 100/1, 100/1 100/1");
        // The line where x(0) = x(1) ends in row 2 alone, which is a corner but once.
        due("a line into a row", listed(game(3, 2, ZEROS, table(1, 0, 0, 1, 0, 0))),
            "001/1 010/1, 001/1 100/1, 010/1 010/1, 110/2 010/1, 110/2 100/1, 100/1 100/1");
    }

    private static void bothMixesAreCorners() {
        sentence("Terms", "The equilibria of which both mixes are corners are listed");
        due("all 0, 2x2", listed(new BimatrixGames(2, 2)),
            "010/1 010/1, 010/1 100/1, 100/1 010/1, 100/1 100/1");
        // y = (1, 0) and every x with x(0) from 1/2 on are equilibria: of these x the two ends are corners.
        due("a stretch of equilibria", listed(game(2, 2, table(1, 0, 1, 1), table(1, 0, 0, 1))),
            "010/1 010/1, 110/2 100/1, 100/1 100/1");
    }

    private static void orderOfTheList() {
        sentence("Terms", "those with a smaller x(0) first, then a smaller x(1), x(2), y(0), y(1) and y(2); "
            + "they are numbered from 0");
        due("twelve", listed(twelve()), TWELVE);
        due("all 0, 1x3: y alone", listed(new BimatrixGames(1, 3)), "100/1 001/1, 100/1 010/1, 100/1 100/1");
        // The fractions count, not the parts: 10/19 comes before 2/3, and this before 5/7.
        BimatrixGames close = game(3, 3, ZEROS, table(2, 0, 0, 0, 5, 0, 0, 0, 4));
        due("fractions", listed(close), "001/1 001/1, 045/9 001/1, 045/9 010/1, 010/1 010/1, "
            + "1045/19 001/1, 1045/19 010/1, 1045/19 100/1, 201/3 001/1, 201/3 100/1, "
            + "520/7 010/1, 520/7 100/1, 100/1 100/1");
    }

    private static void smallestWhole() {
        sentence("Terms", "its WHOLE is the smallest whole number above 0 that times each gives a whole number");
        due("a row alone: whole(0, 0)", dilemma().whole(0, 0), 1);
        // 6/9 and 3/9 of the rows, 4/8 and 4/8 of the columns.
        due("not in lowest terms", listed(game(2, 2, table(4, 0, 0, 4), table(0, 3, 6, 0))), "210/3 110/2");
        // 6, 10 and 15 have no common divisor, though each two of them have one.
        int[] primes = table(5, 0, 0, 0, 3, 0, 0, 0, 2);
        due("6/31, 10/31, 15/31", listed(game(3, 3, primes, negative(primes))), "61015/31 61015/31");
    }

    // ---- Promises 1 to 3

    private static void clamped() {
        sentence("Promise 1", "rows and columns are clamped into 1..3");
        int[] low = {0, -1, -3, LOWEST};
        int[] high = {4, 5, 1000, HIGHEST};
        for (int n = 0; n < 4; n++) {
            due("(" + low[n] + ", 2).left()", new BimatrixGames(low[n], 2).left(), 1 | 3 << 3);
            due("(2, " + low[n] + ").left()", new BimatrixGames(2, low[n]).left(), 3 | 1 << 3);
            due("(" + high[n] + ", 2).left()", new BimatrixGames(high[n], 2).left(), 7 | 3 << 3);
            due("(2, " + high[n] + ").left()", new BimatrixGames(2, high[n]).left(), 3 | 7 << 3);
            due("(" + low[n] + ", " + high[n] + ").pure()", new BimatrixGames(low[n], high[n]).pure(), 7);
            due("(" + high[n] + ", " + low[n] + ").pure()", new BimatrixGames(high[n], low[n]).pure(), 73);
        }
        due("(0, 0).paid(0, 0)", new BimatrixGames(0, 0).paid(0, 0), 0);
        due("(0, 0).paid(0, 1)", new BimatrixGames(0, 0).paid(0, 1), BAD);
        due("(0, 0).paid(0, 3)", new BimatrixGames(0, 0).paid(0, 3), BAD);
        due("(4, 4).paid(1, 8)", new BimatrixGames(4, 4).paid(1, 8), 0);
        due("(4, 4).paid(1, 9)", new BimatrixGames(4, 4).paid(1, 9), BAD);
    }

    private static void allPayments0() {
        sentence("Promise 1", "all payments are 0");
        for (int rows = 0; rows <= 4; rows++) {
            for (int columns = 0; columns <= 4; columns++) {
                BimatrixGames g = new BimatrixGames(rows, columns);
                int made = Math.max(1, Math.min(3, rows));
                int wide = Math.max(1, Math.min(3, columns));
                for (int at = 0; at < 9; at++) {
                    if (inTable(made, wide, at)) {
                        due("(" + rows + ", " + columns + ").paid(0, " + at + ")", g.paid(0, at), 0);
                        due("(" + rows + ", " + columns + ").paid(1, " + at + ")", g.paid(1, at), 0);
                    }
                }
                due("(" + rows + ", " + columns + "): gets", gets(g, 0, 0) + gets(g, 0, 1), "0/10/1");
            }
        }
    }

    private static void placesInTheTable() {
        sentence("Promise 2", "Sets what a side gets; at = 3 * row + column");
        // Three places a row, in narrow tables too: all nine places hold their own number for each side.
        BimatrixGames g = new BimatrixGames(3, 3);
        for (int n = 0; n < 18; n++) {
            g.pay(n / 9, n % 9, n - 9);
        }
        for (int n = 0; n < 18; n++) {
            due("paid(" + n / 9 + ", " + n % 9 + ")", g.paid(n / 9, n % 9), n - 9);
        }
        BimatrixGames narrow = new BimatrixGames(3, 1);
        due("3x1: pay(0, 6, 1)", narrow.pay(0, 6, 1), true);
        due("3x1: pure()", narrow.pure(), 1 << 6);
    }

    private static void payOfNoSide() {
        sentence("Promise 2", "side outside 0..1 [...]: refused, answers false");
        for (int side : NO_SIDES) {
            BimatrixGames g = battle();
            due("pay(" + side + ", 0, 9)", g.pay(side, 0, 9), false);
            due("paid(0, 0) and paid(1, 0)", 10 * g.paid(0, 0) + g.paid(1, 0), 32);
        }
        due("pay(0, 0, 9)", battle().pay(0, 0, 9), true);
        due("pay(1, 0, 9)", battle().pay(1, 0, 9), true);
    }

    private static void payOutsideTheTable() {
        sentence("Promise 2", "at outside the table [...]: refused, answers false");
        int[] far = {LOWEST, LOWEST + 1, -10, -9, -4, -3, -2, -1, 9, 10, 11, 12, 17, 18, HIGHEST};
        for (int rows = 1; rows <= 3; rows++) {
            for (int columns = 1; columns <= 3; columns++) {
                BimatrixGames g = new BimatrixGames(rows, columns);
                for (int side = 0; side < 2; side++) {
                    String name = rows + "x" + columns + ": pay(" + side + ", ";
                    for (int at : far) {
                        due(name + at + ", 1)", g.pay(side, at, 1), false);
                    }
                    for (int at = 0; at < 9; at++) {
                        due(name + at + ", 0)", g.pay(side, at, 0), inTable(rows, columns, at));
                    }
                }
                due("payments after it", everything(g), everything(new BimatrixGames(rows, columns)));
            }
        }
    }

    private static void payOfTooMuch() {
        sentence("Promise 2", "value outside -9..9: refused, answers false");
        for (int value : new int[] {-10, -11, -100, 10, 11, 100, LOWEST, LOWEST + 9, HIGHEST, HIGHEST - 9}) {
            BimatrixGames g = battle();
            due("pay(0, 0, " + value + ")", g.pay(0, 0, value), false);
            due("pay(1, 4, " + value + ")", g.pay(1, 4, value), false);
            due("paid(0, 0) and paid(1, 4)", 10 * g.paid(0, 0) + g.paid(1, 4), 33);
        }
    }

    private static void elseTrue() {
        sentence("Promise 2", "Else true");
        BimatrixGames g = new BimatrixGames(3, 3);
        for (int side = 0; side < 2; side++) {
            for (int at = 0; at < 9; at += 8) {
                for (int value : new int[] {-9, -8, 0, 8, 9, 9}) {
                    String place = "(" + side + ", " + at;
                    due("pay" + place + ", " + value + ")", g.pay(side, at, value), true);
                    due("paid" + place + ")", g.paid(side, at), value);
                }
            }
        }
    }

    private static void paidBad() {
        sentence("Promise 3", "BAD for side outside 0..1");
        for (int side : NO_SIDES) {
            due("paid(" + side + ", 0)", battle().paid(side, 0), BAD);
            due("paid(" + side + ", 9)", battle().paid(side, 9), BAD);
        }
        due("paid(0, 0)", battle().paid(0, 0), 3);
        due("paid(1, 0)", battle().paid(1, 0), 2);

        sentence("Promise 3", "BAD for [...] at outside the table");
        for (int rows = 1; rows <= 3; rows++) {
            for (int columns = 1; columns <= 3; columns++) {
                BimatrixGames g = new BimatrixGames(rows, columns);
                for (int at = -12; at < 21; at++) {
                    int want = inTable(rows, columns, at) ? 0 : BAD;
                    due(rows + "x" + columns + ": paid(0, " + at + ")", g.paid(0, at), want);
                    due(rows + "x" + columns + ": paid(1, " + at + ")", g.paid(1, at), want);
                }
                due("paid(0, lowest)", g.paid(0, LOWEST), BAD);
                due("paid(1, highest)", g.paid(1, HIGHEST), BAD);
            }
        }
    }

    // ---- Promises 4 and 5

    private static void pureEdges() {
        sentence("Promise 4", "The couples of a row and a column that, as mixes, are an equilibrium: "
            + "bit 3 * row + column");
        due("none: pure()", game(2, 2, table(1, 0, 0, 1), table(0, 1, 1, 0)).pure(), 0);
        due("all: pure()", new BimatrixGames(3, 3).pure(), 511);
        due("all of 2x2: pure()", new BimatrixGames(2, 2).pure(), 27);
        due("the only one: pure()", new BimatrixGames(1, 1).pure(), 1);
        int[] last = table(0, 0, 0, 0, 0, 0, 0, 0, 1);
        int[] unlike = table(0, 0, 1, 0, 0, 1, 0, 0, 1);
        due("the last: pure()", game(3, 3, last, unlike).pure(), 1 << 8);
        // All payments are below what lies outside the table, which is not there.
        due("below 0: pure()", game(2, 2, negative(1, 2, 2, 1), negative(1, 2, 2, 1)).pure(), 17);
    }

    private static void equilibriaEdges() {
        sentence("Promise 5", "The number of listed equilibria");
        due("the only one: equilibria()", new BimatrixGames(1, 1).equilibria(), 1);
        due("all 0: equilibria()", new BimatrixGames(3, 3).equilibria(), 9);
        due("twelve: equilibria()", twelve().equilibria(), 12);
        due("none pure: equilibria()", game(2, 2, table(1, 0, 0, 1), table(0, 1, 1, 0)).equilibria(), 1);
        // The number goes with the payments, up and down.
        BimatrixGames g = battle();
        due("battle: equilibria()", g.equilibria(), 3);
        g.pay(0, 3, 4);
        due("battle with row 1 always better: equilibria()", g.equilibria(), 1);
        g.pay(0, 3, 0);
        due("battle again: equilibria()", g.equilibria(), 3);
    }

    // ---- Promises 6 to 9

    private static void partOfNoChoice() {
        sentence("Promise 6", "0 for i that is no row or column");
        for (int rows = 1; rows <= 3; rows++) {
            for (int columns = 1; columns <= 3; columns++) {
                // Equilibrium 0 of a game of 0 is the last row and the last column.
                BimatrixGames g = new BimatrixGames(rows, columns);
                for (int i : new int[] {LOWEST, -3, -2, -1, 0, 1, 2, 3, 4, 5, 9, HIGHEST}) {
                    String name = rows + "x" + columns + ": part(0, ";
                    due(name + "0, " + i + ")", g.part(0, 0, i), i == rows - 1 ? 1 : 0);
                    due(name + "1, " + i + ")", g.part(0, 1, i), i == columns - 1 ? 1 : 0);
                }
            }
        }
        // What stands in the mixes before and after it does not show.
        BimatrixGames middle = twelve();
        for (int k = 0; k < 12; k++) {
            for (int i : new int[] {-3, -2, -1, 3, 4, 5}) {
                due("twelve: part(" + k + ", 0, " + i + ")", middle.part(k, 0, i), 0);
                due("twelve: part(" + k + ", 1, " + i + ")", middle.part(k, 1, i), 0);
            }
        }
    }

    private static void partOfNoSide() {
        sentence("Promise 6", "side outside 0..1: BAD");
        for (int side : NO_SIDES) {
            due("part(0, " + side + ", 0)", battle().part(0, side, 0), BAD);
            due("part(2, " + side + ", 1)", battle().part(2, side, 1), BAD);
        }
        due("part(1, 0, 0)", battle().part(1, 0, 0), 3);
        due("part(1, 1, 0)", battle().part(1, 1, 0), 2);
    }

    private static void partOfNoEquilibrium() {
        sentence("Promise 6", "there is no equilibrium k: NONE");
        BimatrixGames g = twelve();
        due("twelve: part(0, 0, 2)", g.part(0, 0, 2), 1);
        due("twelve: part(11, 0, 0)", g.part(11, 0, 0), 1);
        due("only one: part(0, 1, 0)", new BimatrixGames(1, 1).part(0, 1, 0), 1);
        due("only one: part(1, 1, 0)", new BimatrixGames(1, 1).part(1, 1, 0), NONE);
        for (int side = 0; side < 2; side++) {
            for (int k : new int[] {-1, -2, 12, 13, 64, 1000, LOWEST, HIGHEST}) {
                due("twelve: part(" + k + ", " + side + ", 0)", g.part(k, side, 0), NONE);
            }
        }
        // Equilibrium 2 goes when the payments change, and comes back.
        BimatrixGames battle = battle();
        due("battle: part(2, 0, 0)", battle.part(2, 0, 0), 1);
        battle.pay(0, 3, 4);
        due("battle with row 1 always better: part(2, 0, 0)", battle.part(2, 0, 0), NONE);
        due("battle with row 1 always better: part(1, 0, 0)", battle.part(1, 0, 0), NONE);
        battle.pay(0, 3, 0);
        due("battle again: part(2, 0, 0)", battle.part(2, 0, 0), 1);
    }

    private static void wholeBadAndNone() {
        sentence("Promise 7", "The whole of side's mix; BAD and NONE as for part");
        for (int side : NO_SIDES) {
            due("whole(1, " + side + ")", battle().whole(1, side), BAD);
        }
        BimatrixGames g = twelve();
        for (int side = 0; side < 2; side++) {
            for (int k : new int[] {-1, -2, 12, 13, 64, 1000, LOWEST, HIGHEST}) {
                due("twelve: whole(" + k + ", " + side + ")", g.whole(k, side), NONE);
            }
            due("twelve: whole(0, " + side + ")", g.whole(0, side), 1);
            due("twelve: whole(11, " + side + ")", g.whole(11, side), 1);
        }
        due("twelve: whole(6, 0)", g.whole(6, 0), 3);
    }

    private static void getsTopBadAndNone() {
        sentence("Promise 8", "What side gets in listed equilibrium k is a fraction in lowest terms: "
            + "its numerator; BAD and NONE as for part");
        for (int side : NO_SIDES) {
            due("getsTop(1, " + side + ")", battle().getsTop(1, side), BAD);
        }
        BimatrixGames g = twelve();
        for (int side = 0; side < 2; side++) {
            for (int k : new int[] {-1, -2, 12, 13, 64, 1000, LOWEST, HIGHEST}) {
                due("twelve: getsTop(" + k + ", " + side + ")", g.getsTop(k, side), NONE);
            }
            due("twelve: getsTop(0, " + side + ")", g.getsTop(0, side), side);
            due("twelve: getsTop(11, " + side + ")", g.getsTop(11, side), side);
        }
        // 16/4, 0/4 and -6/4.
        due("a whole number", game(2, 2, table(8, 0, 0, 8), table(0, 1, 1, 0)).getsTop(0, 0), 4);
        due("nothing", game(2, 2, table(2, -2, -2, 2), table(0, 1, 1, 0)).getsTop(0, 0), 0);
        due("below 0", game(2, 2, table(-3, 0, 0, -3), table(0, -1, -1, 0)).getsTop(0, 0), -3);
    }

    private static void getsBottomBadAndNone() {
        sentence("Promise 9", "Its denominator, above 0; BAD and NONE as for part");
        for (int side : NO_SIDES) {
            due("getsBottom(1, " + side + ")", battle().getsBottom(1, side), BAD);
        }
        BimatrixGames g = twelve();
        for (int side = 0; side < 2; side++) {
            for (int k : new int[] {-1, -2, 12, 13, 64, 1000, LOWEST, HIGHEST}) {
                due("twelve: getsBottom(" + k + ", " + side + ")", g.getsBottom(k, side), NONE);
            }
            due("twelve: getsBottom(0, " + side + ")", g.getsBottom(0, side), 1);
            due("twelve: getsBottom(11, " + side + ")", g.getsBottom(11, side), 1);
        }
        due("a whole number", game(2, 2, table(8, 0, 0, 8), table(0, 1, 1, 0)).getsBottom(0, 0), 1);
        due("nothing", game(2, 2, table(2, -2, -2, 2), table(0, 1, 1, 0)).getsBottom(0, 0), 1);
        due("below 0", game(2, 2, table(-3, 0, 0, -3), table(0, -1, -1, 0)).getsBottom(0, 0), 2);
    }

    // ---- Promises 10 to 13

    private static void sureOfTheMost() {
        sentence("Promise 10", "the greatest number such that it has a mix with which it gets at least that "
            + "against every choice of the other side; as a fraction in lowest terms its numerator");
        due("one row: its worst column", game(1, 3, table(9, -9, 4), ZEROS).sureTop(0), -9);
        due("one column: its worst row", game(3, 1, ZEROS, table(9, 4, -9)).sureTop(1), -9);
        due("one column: the best row", game(3, 1, table(-4, 7, -9), ZEROS).sureTop(0), 7);
        due("one row: the best column", game(1, 3, ZEROS, table(-4, -9, 7)).sureTop(1), 7);
        due("nothing", game(2, 2, table(6, -6, -6, 6), ZEROS).sureTop(0), 0);
        due("the only payment", game(1, 1, table(-9), ZEROS).sureTop(0), -9);
        // The row alone is as good as any mix with it; then only a mix of all three rows will do.
        due("a row alone", game(2, 2, table(3, 2, 9, 1), ZEROS).sureTop(0), 2);
        due("all three rows", game(3, 3, table(6, 0, 0, 0, 3, 0, 0, 0, 2), ZEROS).sureTop(0), 1);
        due("-8/2", game(2, 2, table(-8, 0, 0, -8), ZEROS).sureTop(0), -4);
    }

    private static void sureTopBad() {
        sentence("Promise 10", "side outside 0..1: BAD");
        for (int side : NO_SIDES) {
            due("sureTop(" + side + ")", battle().sureTop(side), BAD);
        }
        due("sureTop(0)", battle().sureTop(0), 6);
        due("sureTop(1)", battle().sureTop(1), 6);
    }

    private static void sureBottomAbove0() {
        sentence("Promise 11", "Its denominator, above 0; BAD as before");
        for (int side : NO_SIDES) {
            due("sureBottom(" + side + ")", battle().sureBottom(side), BAD);
        }
        due("sureBottom(0)", battle().sureBottom(0), 5);
        due("sureBottom(1)", battle().sureBottom(1), 5);
        due("nothing", game(2, 2, table(6, -6, -6, 6), ZEROS).sureBottom(0), 1);
        due("-9/2", game(2, 2, table(-9, 0, 0, -9), ZEROS).sureBottom(0), 2);
        due("-8/2", game(2, 2, table(-8, 0, 0, -8), ZEROS).sureBottom(0), 1);
        due("the only payment", game(1, 1, ZEROS, table(-9)).sureBottom(1), 1);
    }

    private static void repliesToSomeMix() {
        sentence("Promise 12", "The rows (side 0; bits 0 to 2) or columns (side 1) that are a reply to some mix "
            + "of the other side");
        due("all: replies(0)", new BimatrixGames(3, 3).replies(0), 7);
        due("all: replies(1)", new BimatrixGames(3, 3).replies(1), 7);
        due("1x2: replies(0)", new BimatrixGames(1, 2).replies(0), 1);
        due("1x2: replies(1)", new BimatrixGames(1, 2).replies(1), 3);
        due("the last row alone: replies(0)", game(3, 1, table(0, 0, 1), ZEROS).replies(0), 4);
        // Row 2 gets as much as the others only against 1/2, 1/2; less by 1 on one column, and it never does.
        due("one mix: replies(0)", game(3, 2, table(4, 0, 0, 4, 2, 2), ZEROS).replies(0), 7);
        due("no mix: replies(0)", game(3, 2, table(4, 0, 0, 4, 2, 1), ZEROS).replies(0), 3);
        due("one mix: replies(1)", game(2, 3, ZEROS, table(4, 0, 2, 0, 4, 2)).replies(1), 7);
        due("no mix: replies(1)", game(2, 3, ZEROS, table(4, 0, 1, 0, 4, 2)).replies(1), 3);
        // Row 2 is a reply only where column 2 is chosen alone.
        due("a column alone: replies(0)", game(3, 3, table(3, 0, 0, 0, 3, 0, 1, 1, 0), ZEROS).replies(0), 7);
        due("not even there: replies(0)", game(3, 3, table(3, 0, 0, 0, 3, 0, 1, 1, -1), ZEROS).replies(0), 3);
        due("never less: replies(0)", game(2, 2, table(1, 1, 1, 0), ZEROS).replies(0), 3);
    }

    private static void repliesBad() {
        sentence("Promise 12", "side outside 0..1: BAD");
        for (int side : NO_SIDES) {
            due("replies(" + side + ")", battle().replies(side), BAD);
        }
        due("replies(0)", battle().replies(0), 3);
        due("replies(1)", battle().replies(1), 3);
    }

    private static void leftEdges() {
        sentence("Promise 13", "as long as there is one that is a reply to no mix of what is left of the other "
            + "side (among what is left of its own side), all such ones are taken out at once: "
            + "bits 0 to 2 for rows, 3 to 5 for columns");
        due("the only ones: left()", new BimatrixGames(1, 1).left(), 1 | 1 << 3);
        due("none is taken out: left()", new BimatrixGames(3, 3).left(), 63);
        due("none of 2x3 is taken out: left()", new BimatrixGames(2, 3).left(), 3 | 7 << 3);
        // Two rows and two columns at once: the last ones are always better.
        int[] rising = table(0, 0, 0, 1, 1, 1, 2, 2, 2);
        int[] across = table(0, 1, 2, 0, 1, 2, 0, 1, 2);
        due("all but the last: left()", game(3, 3, rising, across).left(), 4 | 4 << 3);
        due("all but the first: left()", game(3, 3, negative(rising), negative(across)).left(), 1 | 1 << 3);
        // Four rounds, each takes one out: column 2, row 2, column 1, row 1.
        BimatrixGames chain = game(3, 3, table(3, 1, 1, 2, 3, 1, 1, 2, 3), table(3, 2, 1, 3, 2, 0, 0, 2, 1));
        due("four rounds: left()", chain.left(), 1 | 1 << 3);
        // The same with the sides exchanged: row 2, column 2, row 1, column 1.
        BimatrixGames other = game(3, 3, table(3, 3, 0, 2, 2, 2, 1, 0, 1), table(3, 2, 1, 1, 3, 2, 1, 1, 3));
        due("four rounds, a row first: left()", other.left(), 1 | 1 << 3);
        // Column 1 is a reply only where row 1 has 9/10 at least.
        due("a reply that stays: left()", game(2, 2, table(0, 0, 0, 0), table(9, 0, 0, 1)).left(), 27);
        // Never better, yet as good against column 0: not taken out.
        due("as good in one place: left()", game(2, 2, table(1, 1, 1, 0), ZEROS).left(), 27);
        // And when column 1 is all that is left, it is not as good any more.
        due("then not: left()", game(2, 2, table(1, 1, 1, 0), table(0, 1, 0, 1)).left(), 1 | 2 << 3);
    }

    // ---- Promises 14 and 15

    private static void exchangeEdges() {
        sentence("Promise 14", "Exchanges the sides: rows become columns, and payments go along");
        BimatrixGames one = game(1, 1, table(-9), table(9));
        one.exchange();
        due("1x1: paid(0, 0)", one.paid(0, 0), 9);
        due("1x1: paid(1, 0)", one.paid(1, 0), -9);
        BimatrixGames wide = game(1, 3, table(1, 2, 3), table(4, 5, 6));
        wide.exchange();
        due("3x1: paid(0, 6)", wide.paid(0, 6), 6);
        due("3x1: paid(1, 6)", wide.paid(1, 6), 3);
        due("3x1: paid(0, 2)", wide.paid(0, 2), BAD);
        due("3x1: pay(0, 6, 7)", wide.pay(0, 6, 7), true);
        due("3x1: pay(0, 1, 7)", wide.pay(0, 1, 7), false);
        due("3x1: left()", wide.left(), 4 | 1 << 3);
        wide.exchange();
        due("1x3: paid(1, 2)", wide.paid(1, 2), 7);
        due("1x3: paid(1, 6)", wide.paid(1, 6), BAD);
        for (int rows = 1; rows <= 3; rows++) {
            for (int columns = 1; columns <= 3; columns++) {
                exchangeWhole(rows, columns);
            }
        }
        // The list is put in order anew, by what the rows are now.
        BimatrixGames list = game(2, 2, ZEROS, table(1, 0, 0, 1));
        list.exchange();
        due("bent, exchanged", listed(list), "010/1 010/1, 010/1 110/2, 100/1 110/2, 100/1 100/1");
        // A new object is exchanged as well: only the sizes change.
        BimatrixGames empty = new BimatrixGames(3, 2);
        empty.exchange();
        due("a new 3x2, exchanged", everything(empty), everything(new BimatrixGames(2, 3)));
    }

    private static void exchangeWhole(int rows, int columns) {
        BimatrixGames g = new BimatrixGames(rows, columns);
        BimatrixGames turned = new BimatrixGames(columns, rows);
        BimatrixGames same = new BimatrixGames(rows, columns);
        for (int i = 0; i < rows; i++) {
            for (int j = 0; j < columns; j++) {
                for (int side = 0; side < 2; side++) {
                    int value = (7 * i + 4 * j + 11 * side) % 19 - 9;
                    g.pay(side, 3 * i + j, value);
                    same.pay(side, 3 * i + j, value);
                    turned.pay(1 - side, 3 * j + i, value);
                }
            }
        }
        g.exchange();
        due(rows + "x" + columns + ", exchanged", everything(g), everything(turned));
        g.exchange();
        due(rows + "x" + columns + ", exchanged twice", everything(g), everything(same));
    }

    private static void sideThenNumberThenChoice() {
        sentence("Promise 15", "part, whole, getsTop, getsBottom: tested in the order: side (BAD), k (NONE); "
            + "part then: i (0)");
        BimatrixGames g = battle();
        for (int side : NO_SIDES) {
            for (int k : new int[] {-1, 3, LOWEST, HIGHEST}) {
                String both = "(" + k + ", " + side;
                due("part" + both + ", 0)", g.part(k, side, 0), BAD);
                due("part" + both + ", 3)", g.part(k, side, 3), BAD);
                due("whole" + both + ")", g.whole(k, side), BAD);
                due("getsTop" + both + ")", g.getsTop(k, side), BAD);
                due("getsBottom" + both + ")", g.getsBottom(k, side), BAD);
            }
            due("part(0, " + side + ", -1)", g.part(0, side, -1), BAD);
        }
        for (int i : new int[] {-1, 2, 3, LOWEST, HIGHEST}) {
            due("part(3, 0, " + i + ")", g.part(3, 0, i), NONE);
            due("part(-1, 1, " + i + ")", g.part(-1, 1, i), NONE);
            due("part(2, 1, " + i + ")", g.part(2, 1, i), 0);
        }
    }

    private static void refusedChangesNothing() {
        sentence("Promise 15", "A call that is refused, because a number is not as said there, something is not "
            + "there, or a limit is reached, changes nothing");
        String battle = everything(battle());
        String twelve = everything(twelve());
        for (int kind = 0; kind < 18; kind++) {
            BimatrixGames g = battle();
            refuse(g, kind);
            due("after refused call " + kind, everything(g), battle);
            // In the midst of asking, too.
            BimatrixGames h = twelve();
            h.part(11, 0, 0);
            refuse(h, kind);
            due("after part(11, 0, 0) and refused call " + kind, everything(h), twelve);
            // What was refused does not come to light when the sides are exchanged.
            BimatrixGames turned = battle();
            refuse(turned, kind);
            turned.exchange();
            turned.exchange();
            due("after refused call " + kind + " and two exchanges", everything(turned), battle);
        }
    }

    /** A call that the battle and the game of twelve refuse. */
    private static void refuse(BimatrixGames g, int kind) {
        switch (kind) {
            case 0 -> g.pay(-1, 0, 7);
            case 1 -> g.pay(2, 4, 7);
            case 2 -> g.pay(0, -1, 7);
            case 3 -> g.pay(1, 9, 7);
            case 4 -> g.pay(0, 4, 10);
            case 5 -> g.pay(1, 0, -10);
            case 6 -> g.pay(HIGHEST, LOWEST, HIGHEST);
            case 7 -> g.paid(2, 0);
            case 8 -> g.paid(0, -1);
            case 9 -> g.part(0, 2, 0);
            case 10 -> g.part(12, 0, 0);
            case 11 -> g.part(-1, 1, 5);
            case 12 -> g.whole(12, 1);
            case 13 -> g.getsTop(0, -1);
            case 14 -> g.getsBottom(12, 0);
            case 15 -> g.sureTop(2);
            case 16 -> g.sureBottom(-1);
            default -> g.replies(2);
        }
    }

    private static void refusedOutsideASmallTable() {
        sentence("Promise 15", "A call that is refused, because [...] something is not there [...] changes nothing");
        for (int rows = 1; rows <= 3; rows++) {
            for (int columns = 1; columns <= 3; columns++) {
                BimatrixGames g = new BimatrixGames(rows, columns);
                for (int at = 0; at < 9; at++) {
                    if (!inTable(rows, columns, at)) {
                        due("pay(0, " + at + ", 9)", g.pay(0, at, 9), false);
                        due("pay(1, " + at + ", 9)", g.pay(1, at, 9), false);
                    }
                }
                due("after it", everything(g), everything(new BimatrixGames(rows, columns)));
                g.exchange();
                due("after it, exchanged", everything(g), everything(new BimatrixGames(columns, rows)));
            }
        }
    }

    // ---- The language

    private static void neverThrows() {
        sentence("LANGUAGE.md, rule 7", "No call may ever throw or fail to end, for any arguments in any state");
        int[] any = {LOWEST, LOWEST + 1, -1000001, -10, -1, 0, 1, 2, 3, 8, 9, 10, 64, 1 << 30, HIGHEST};
        // Far beyond 512 calls: what is answered there is free, but that there is an answer is not.
        for (BimatrixGames g : new BimatrixGames[] {new BimatrixGames(1, 1), battle(), twelve()}) {
            for (int a : any) {
                for (int b : any) {
                    for (int c : any) {
                        g.pay(a, b, c);
                        g.part(a, b, c);
                    }
                    g.paid(a, b);
                    g.whole(a, b);
                    g.getsTop(a, b);
                    g.getsBottom(a, b);
                }
                g.sureTop(a);
                g.sureBottom(a);
                g.replies(a);
                g.pure();
                g.equilibria();
                g.left();
                g.exchange();
            }
        }
    }

    public static void main(String[] args) {
        atMost512Calls();
        oneToThree();
        paymentsAtTheirLimits();
        mixesNotBelow0();
        repliesThatTie();
        partsAbove0AreReplies();
        lossIsTheMost();
        corners();
        bothMixesAreCorners();
        orderOfTheList();
        smallestWhole();
        clamped();
        allPayments0();
        placesInTheTable();
        payOfNoSide();
        payOutsideTheTable();
        payOfTooMuch();
        elseTrue();
        paidBad();
        pureEdges();
        equilibriaEdges();
        partOfNoChoice();
        partOfNoSide();
        partOfNoEquilibrium();
        wholeBadAndNone();
        getsTopBadAndNone();
        getsBottomBadAndNone();
        sureOfTheMost();
        sureTopBad();
        sureBottomAbove0();
        repliesToSomeMix();
        repliesBad();
        leftEdges();
        exchangeEdges();
        sideThenNumberThenChoice();
        refusedChangesNothing();
        refusedOutsideASmallTable();
        neverThrows();
        System.out.println(sentences + " sentences, " + wrong + " answers not as due");
        if (wrong != 0) {
            System.exit(1);
        }
    }
}
