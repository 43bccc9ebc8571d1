/**
 * Games of two sides with a table of payments for each, and mixed choices that none would change.
 *
 * All that is asked about mixes is answered from finitely many of them. A mix of one side is fixed by
 * three demands: that some of its parts are 0 and that some choices of the other side are paid alike
 * against it. Every corner is fixed so, and so is, among the mixes to which a given choice is a reply,
 * and among those that make a side as sure as it can be, at least one.
 */
public final class BimatrixGames {
    public static final int BAD = -1000000;
    public static final int NONE = -1000001;

    private static final int MOST = 3;
    private static final int CELLS = 9;
    private static final int ALL = 7;
    private static final int LEAST_PAY = -9;
    private static final int MOST_PAY = 9;
    /** Every couple of a set of parts that are 0 and a set of choices paid alike: each gives one mix or none. */
    private static final int DEMANDS = 64;
    /** Euclid's steps on the numbers met here are fewer than fifty. */
    private static final int STEPS = 1000;
    private static final int NO_NUMBER = -1;

    private int rows;
    private int columns;
    private final int[] pays = new int[18];

    private final int[] equations = new int[6];
    private final int[] mix = new int[3];
    private int mixWhole;

    private final int[] cornerCount = new int[2];
    private final int[] cornerParts = new int[384];
    private final int[] cornerWhole = new int[128];
    private final int[] cornerReplies = new int[128];
    private final int[] chosen = new int[2];

    private int top;
    private int bottom;

    public BimatrixGames(int rows, int columns) {
        this.rows = clamped(rows);
        this.columns = clamped(columns);
    }

    public boolean pay(int side, int at, int value) {
        if (!isSide(side) || !isCell(at) || value < LEAST_PAY || value > MOST_PAY) {
            return false;
        }
        pays[side * CELLS + at] = value;
        return true;
    }

    public int paid(int side, int at) {
        if (!isSide(side) || !isCell(at)) {
            return BAD;
        }
        return pays[side * CELLS + at];
    }

    public int pure() {
        int found = 0;
        for (int row = 0; row < rows; row++) {
            for (int column = 0; column < columns; column++) {
                if (isPureEquilibrium(row, column)) {
                    found |= 1 << (MOST * row + column);
                }
            }
        }
        return found;
    }

    public int equilibria() {
        return seek(NO_NUMBER);
    }

    public int part(int k, int side, int i) {
        if (!isSide(side)) {
            return BAD;
        }
        if (!choose(k)) {
            return NONE;
        }
        if (i < 0 || i >= choices(side)) {
            return 0;
        }
        return cornerParts[MOST * chosen[side] + i];
    }

    public int whole(int k, int side) {
        if (!isSide(side)) {
            return BAD;
        }
        if (!choose(k)) {
            return NONE;
        }
        return cornerWhole[chosen[side]];
    }

    public int getsTop(int k, int side) {
        if (!isSide(side)) {
            return BAD;
        }
        if (!choose(k)) {
            return NONE;
        }
        weighChosen(side);
        return top;
    }

    public int getsBottom(int k, int side) {
        if (!isSide(side)) {
            return BAD;
        }
        if (!choose(k)) {
            return NONE;
        }
        weighChosen(side);
        return bottom;
    }

    public int sureTop(int side) {
        if (!isSide(side)) {
            return BAD;
        }
        weighSure(side);
        return top;
    }

    public int sureBottom(int side) {
        if (!isSide(side)) {
            return BAD;
        }
        weighSure(side);
        return bottom;
    }

    public int replies(int side) {
        if (!isSide(side)) {
            return BAD;
        }
        int own = everyChoice(side);
        int other = everyChoice(1 - side);
        return repliesAmong(side, own, other);
    }

    public int left() {
        int rowsLeft = everyChoice(0);
        int columnsLeft = everyChoice(1);
        // Each round that changes anything takes one out at least, and a round never empties a side.
        for (int round = 0; round < 2 * MOST; round++) {
            int rowsKept = repliesAmong(0, rowsLeft, columnsLeft);
            int columnsKept = repliesAmong(1, columnsLeft, rowsLeft);
            rowsLeft = rowsKept;
            columnsLeft = columnsKept;
        }
        return rowsLeft | columnsLeft << MOST;
    }

    public void exchange() {
        for (int row = 0; row < MOST; row++) {
            for (int column = 0; column < MOST; column++) {
                int here = MOST * row + column;
                int there = CELLS + MOST * column + row;
                int kept = pays[here];
                pays[here] = pays[there];
                pays[there] = kept;
            }
        }
        int kept = rows;
        rows = columns;
        columns = kept;
    }

    private static int clamped(int count) {
        if (count < 1) {
            return 1;
        }
        return count > MOST ? MOST : count;
    }

    private static boolean isSide(int side) {
        return side == 0 || side == 1;
    }

    private boolean isCell(int at) {
        return at >= 0 && at < CELLS && at / MOST < rows && at % MOST < columns;
    }

    private int choices(int side) {
        return side == 0 ? rows : columns;
    }

    private int everyChoice(int side) {
        return side == 0 ? (1 << rows) - 1 : (1 << columns) - 1;
    }

    private boolean isPureEquilibrium(int row, int column) {
        for (int i = 0; i < rows; i++) {
            if (pays[MOST * i + column] > pays[MOST * row + column]) {
                return false;
            }
        }
        for (int j = 0; j < columns; j++) {
            if (pays[CELLS + MOST * row + j] > pays[CELLS + MOST * row + column]) {
                return false;
            }
        }
        return true;
    }

    /**
     * Makes mix the one mix of the side's choices in own that fulfils the demand: parts that are 0, and
     * choices of the other side, all of them in other, that get the payee the same. Answers false if there
     * is no such mix, or more than one.
     */
    private boolean solve(int side, int payee, int own, int other, int demand) {
        int zeros = demand >> MOST;
        int alike = demand & ALL;
        if ((zeros | own) != ALL || (alike | other) != other || alike == 0) {
            return false;
        }
        int demands = bits(zeros) + bits(alike);
        if (demands != MOST) {
            return false;
        }
        writeEquations(side, payee, zeros, alike);
        if (!crossEquations()) {
            return false;
        }
        int divisor = commonDivisor(mix[0], mix[1]);
        divisor = commonDivisor(divisor, mix[2]);
        if (divisor > 1) {
            for (int i = 0; i < MOST; i++) {
                mix[i] /= divisor;
            }
            mixWhole /= divisor;
        }
        return true;
    }

    private static int bits(int set) {
        return (set & 1) + (set >> 1 & 1) + (set >> 2 & 1);
    }

    /** Writes the two equations with right side 0 that zeros and alike, three together, ask of the parts. */
    private void writeEquations(int side, int payee, int zeros, int alike) {
        int from = 0;
        int first = NO_NUMBER;
        for (int c = 0; c < MOST; c++) {
            if ((zeros >> c & 1) == 1 && from < 2 * MOST) {
                for (int i = 0; i < MOST; i++) {
                    equations[from + i] = i == c ? 1 : 0;
                }
                from += MOST;
            }
            if ((alike >> c & 1) == 1 && first == NO_NUMBER) {
                first = c;
            } else if ((alike >> c & 1) == 1 && from < 2 * MOST) {
                for (int i = 0; i < MOST; i++) {
                    int here = side == 0 ? MOST * i + c : MOST * c + i;
                    int there = side == 0 ? MOST * i + first : MOST * first + i;
                    equations[from + i] = pays[payee * CELLS + here] - pays[payee * CELLS + there];
                }
                from += MOST;
            }
        }
    }

    /** The solutions of both equations are the multiples of their cross product, if they are independent. */
    private boolean crossEquations() {
        mix[0] = equations[1] * equations[5] - equations[2] * equations[4];
        mix[1] = equations[2] * equations[3] - equations[0] * equations[5];
        mix[2] = equations[0] * equations[4] - equations[1] * equations[3];
        mixWhole = mix[0] + mix[1] + mix[2];
        if (mixWhole < 0) {
            mixWhole = -mixWhole;
            for (int i = 0; i < MOST; i++) {
                mix[i] = -mix[i];
            }
        }
        return mixWhole > 0 && mix[0] >= 0 && mix[1] >= 0 && mix[2] >= 0;
    }

    private static int commonDivisor(int a, int b) {
        int large = a < 0 ? -a : a;
        int small = b < 0 ? -b : b;
        for (int step = 0; step < STEPS && small != 0; step++) {
            int rest = large % small;
            large = small;
            small = rest;
        }
        return large;
    }

    /** What the payee gets, times mixWhole, if the side plays mix against the other side's choice. */
    private int gain(int payee, int side, int choice) {
        int sum = 0;
        for (int i = 0; i < MOST; i++) {
            int at = side == 0 ? MOST * i + choice : MOST * choice + i;
            sum += mix[i] * pays[payee * CELLS + at];
        }
        return sum;
    }

    /** Which choices of the other side, among those given, are replies to mix, a mix of the side. */
    private int repliesToMix(int side, int among) {
        int found = 0;
        int most = 0;
        for (int c = 0; c < MOST; c++) {
            if ((among >> c & 1) == 1) {
                int gained = gain(1 - side, side, c);
                if (found == 0 || gained > most) {
                    most = gained;
                    found = 1 << c;
                } else if (gained == most) {
                    found |= 1 << c;
                }
            }
        }
        return found;
    }

    /** Which of the side's choices in own are replies, among these, to a mix of the other side's choices in other. */
    private int repliesAmong(int side, int own, int other) {
        int found = 0;
        for (int demand = 0; demand < DEMANDS; demand++) {
            if (solve(1 - side, side, other, own, demand)) {
                found |= repliesToMix(1 - side, own);
            }
        }
        return found;
    }

    /** Lists the corners of a side in their order; a demand is met by a corner iff the choices alike are replies. */
    private void findCorners(int side) {
        int own = everyChoice(side);
        int other = everyChoice(1 - side);
        cornerCount[side] = 0;
        for (int demand = 0; demand < DEMANDS; demand++) {
            if (solve(side, 1 - side, own, other, demand)) {
                int found = repliesToMix(side, other);
                if ((demand & ALL & ~found) == 0) {
                    insertCorner(side, found);
                }
            }
        }
    }

    private void insertCorner(int side, int found) {
        int start = side * DEMANDS;
        int end = start + cornerCount[side];
        int place = start;
        int order = 1;
        for (int n = start; n < end; n++) {
            order = compareMix(n);
            if (order <= 0) {
                break;
            }
            place++;
        }
        // The same corner may meet several demands.
        if (order == 0) {
            return;
        }
        for (int n = end; n > place; n--) {
            copyCorner(n - 1, n);
        }
        for (int i = 0; i < MOST; i++) {
            cornerParts[MOST * place + i] = mix[i];
        }
        cornerWhole[place] = mixWhole;
        cornerReplies[place] = found;
        cornerCount[side]++;
    }

    /** Below 0, 0 or above 0 as mix comes before corner n, is it, or comes after it. */
    private int compareMix(int n) {
        for (int i = 0; i < MOST; i++) {
            int difference = mix[i] * cornerWhole[n] - cornerParts[MOST * n + i] * mixWhole;
            if (difference != 0) {
                return difference;
            }
        }
        return 0;
    }

    private void copyCorner(int from, int to) {
        for (int i = 0; i < MOST; i++) {
            cornerParts[MOST * to + i] = cornerParts[MOST * from + i];
        }
        cornerWhole[to] = cornerWhole[from];
        cornerReplies[to] = cornerReplies[from];
    }

    private boolean choose(int k) {
        return k >= 0 && k < seek(k);
    }

    /** Counts the listed equilibria, and makes chosen the corners of the one with number k, if there is one. */
    private int seek(int k) {
        findCorners(0);
        findCorners(1);
        int count = 0;
        for (int x = 0; x < cornerCount[0]; x++) {
            for (int y = DEMANDS; y < DEMANDS + cornerCount[1]; y++) {
                if (usesOnlyReplies(x, y) && usesOnlyReplies(y, x)) {
                    if (count == k) {
                        chosen[0] = x;
                        chosen[1] = y;
                    }
                    count++;
                }
            }
        }
        return count;
    }

    private boolean usesOnlyReplies(int corner, int against) {
        for (int i = 0; i < MOST; i++) {
            if (cornerParts[MOST * corner + i] > 0 && (cornerReplies[against] >> i & 1) == 0) {
                return false;
            }
        }
        return true;
    }

    /** Makes top and bottom the fraction that the side gets in the chosen equilibrium. */
    private void weighChosen(int side) {
        int sum = 0;
        for (int i = 0; i < rows; i++) {
            for (int j = 0; j < columns; j++) {
                int weight = cornerParts[MOST * chosen[0] + i] * cornerParts[MOST * chosen[1] + j];
                sum += weight * pays[side * CELLS + MOST * i + j];
            }
        }
        top = sum;
        bottom = cornerWhole[chosen[0]] * cornerWhole[chosen[1]];
        reduceFraction();
    }

    /** Makes top and bottom the most that the side can be sure of; no mix gets less than the least payment. */
    private void weighSure(int side) {
        int own = everyChoice(side);
        int other = everyChoice(1 - side);
        top = LEAST_PAY;
        bottom = 1;
        for (int demand = 0; demand < DEMANDS; demand++) {
            if (solve(side, side, own, other, demand)) {
                int least = leastGain(side);
                if (least * bottom > top * mixWhole) {
                    top = least;
                    bottom = mixWhole;
                }
            }
        }
        reduceFraction();
    }

    /** The least that the side can get with mix, times mixWhole. */
    private int leastGain(int side) {
        int count = choices(1 - side);
        int least = gain(side, side, 0);
        for (int c = 1; c < count; c++) {
            int gained = gain(side, side, c);
            if (gained < least) {
                least = gained;
            }
        }
        return least;
    }

    private void reduceFraction() {
        int divisor = commonDivisor(top, bottom);
        if (divisor > 1) {
            top /= divisor;
            bottom /= divisor;
        }
    }
}
