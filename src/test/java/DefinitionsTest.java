import java.util.ArrayList;
import java.util.List;
import java.util.Random;

/**
 * Many games, each against answers found in two other ways than the program's.
 *
 * Small games: every mix up to a whole that no corner of such a game exceeds is tried, and the words of the
 * section "Terms" are applied to it. Large games: corners are met as solutions of the tight inequalities,
 * the sure payment is found from the other side's mixes, and a reply by asking whether a mix beats it.
 */
public final class DefinitionsTest {
    private static int wrong = 0;
    private static String game = "";

    private static void due(String call, long got, long want) {
        if (got != want) {
            wrong++;
            if (wrong <= 20) {
                System.out.println(game + ": " + call + " answered " + got + ", due is " + want);
            }
        }
    }

    // A mix is an array of its parts; its whole is their sum, and they have no common divisor.

    private static long gcd(long a, long b) {
        return b == 0 ? Math.abs(a) : gcd(b, a % b);
    }

    private static long sum(long[] parts) {
        long sum = 0;
        for (long p : parts) {
            sum += p;
        }
        return sum;
    }

    private static List<long[]> mixes(int count, int mostWhole) {
        List<long[]> all = new ArrayList<>();
        for (int w = 1; w <= mostWhole; w++) {
            for (int a = 0; a <= w; a++) {
                for (int b = 0; b <= w - a; b++) {
                    int c = w - a - b;
                    boolean fits = count == 3 || (count == 2 && c == 0) || (count == 1 && b == 0 && c == 0);
                    if (fits && gcd(gcd(a, b), c) == 1) {
                        long[] parts = {a, b, c};
                        all.add(java.util.Arrays.copyOf(parts, count));
                    }
                }
            }
        }
        return all;
    }

    private static int compare(long[] p, long[] q) {
        for (int i = 0; i < p.length; i++) {
            int order = Long.compare(p[i] * sum(q), q[i] * sum(p));
            if (order != 0) {
                return order;
            }
        }
        return 0;
    }

    // A table t is written for the one who mixes: t[own][other].

    private static long[][] turned(long[][] t) {
        long[][] u = new long[t[0].length][t.length];
        for (int i = 0; i < t.length; i++) {
            for (int j = 0; j < t[0].length; j++) {
                u[j][i] = t[i][j];
            }
        }
        return u;
    }

    private static long gain(long[][] t, long[] mix, int other) {
        long sum = 0;
        for (int i = 0; i < mix.length; i++) {
            sum += mix[i] * t[i][other];
        }
        return sum;
    }

    private static int repliesTo(long[][] t, long[] mix, int among) {
        int found = 0;
        for (int j = 0; j < t[0].length; j++) {
            boolean best = (among >> j & 1) == 1;
            for (int k = 0; k < t[0].length; k++) {
                best &= (among >> k & 1) == 0 || gain(t, mix, k) <= gain(t, mix, j);
            }
            if (best) {
                found |= 1 << j;
            }
        }
        return found;
    }

    private static int used(long[] mix) {
        int found = 0;
        for (int i = 0; i < mix.length; i++) {
            if (mix[i] > 0) {
                found |= 1 << i;
            }
        }
        return found;
    }

    /** The rank of the rows, by elimination without fractions. */
    private static int rank(List<long[]> rows, int width) {
        List<long[]> left = new ArrayList<>();
        for (long[] r : rows) {
            left.add(r.clone());
        }
        int rank = 0;
        for (int c = 0; c < width; c++) {
            int p = rank;
            while (p < left.size() && left.get(p)[c] == 0) {
                p++;
            }
            if (p == left.size()) {
                continue;
            }
            long[] pivot = left.get(p);
            left.set(p, left.get(rank));
            left.set(rank, pivot);
            for (int r = rank + 1; r < left.size(); r++) {
                long[] row = left.get(r);
                long f = row[c];
                for (int k = 0; k < width; k++) {
                    row[k] = row[k] * pivot[c] - pivot[k] * f;
                }
            }
            rank++;
        }
        return rank;
    }

    /**
     * A mix is no corner iff there is a way to go, forth and back, on which it stays a mix and its loss is
     * straight: parts that are 0 stay, the sum stays, and the choices that are replies change alike.
     */
    private static boolean isCorner(long[][] t, long[] mix) {
        List<long[]> kept = new ArrayList<>();
        long[] ones = new long[mix.length];
        java.util.Arrays.fill(ones, 1);
        kept.add(ones);
        for (int i = 0; i < mix.length; i++) {
            if (mix[i] == 0) {
                long[] unit = new long[mix.length];
                unit[i] = 1;
                kept.add(unit);
            }
        }
        int replies = repliesTo(t, mix, 7);
        int first = Integer.numberOfTrailingZeros(replies);
        for (int j = first + 1; j < t[0].length; j++) {
            if ((replies >> j & 1) == 1) {
                long[] change = new long[mix.length];
                for (int i = 0; i < mix.length; i++) {
                    change[i] = t[i][j] - t[i][first];
                }
                kept.add(change);
            }
        }
        return rank(kept, mix.length) == mix.length;
    }

    // The second way to the corners: solve the tight inequalities for the parts and the loss.

    private static long determinant(long[][] m) {
        if (m.length == 1) {
            return m[0][0];
        }
        long sum = 0;
        for (int c = 0; c < m.length; c++) {
            if (m[0][c] != 0) {
                long[][] minor = new long[m.length - 1][m.length - 1];
                for (int r = 1; r < m.length; r++) {
                    for (int k = 0, to = 0; k < m.length; k++) {
                        if (k != c) {
                            minor[r - 1][to++] = m[r][k];
                        }
                    }
                }
                sum += (c % 2 == 0 ? 1 : -1) * m[0][c] * determinant(minor);
            }
        }
        return sum;
    }

    private static List<long[]> solvedCorners(long[][] t) {
        int own = t.length;
        int other = t[0].length;
        List<long[]> found = new ArrayList<>();
        for (int tight = 0; tight < 1 << (own + other); tight++) {
            if (Integer.bitCount(tight) != own) {
                continue;
            }
            long[][] m = new long[own + 1][own + 1];
            int r = 0;
            for (int i = 0; i < own; i++) {
                m[0][i] = 1;
            }
            for (int c = 0; c < own + other; c++) {
                if ((tight >> c & 1) == 1) {
                    r++;
                    if (c < own) {
                        m[r][c] = 1;
                    } else {
                        for (int i = 0; i < own; i++) {
                            m[r][i] = t[i][c - own];
                        }
                        m[r][own] = -1;
                    }
                }
            }
            long[] mix = cramer(m);
            if (mix != null && (repliesTo(t, mix, 7) & tight >> own) == tight >> own) {
                add(found, mix);
            }
        }
        return found;
    }

    /** The parts of the mix that solves the rows with right sides 1, 0, 0, ...; null if there is none. */
    private static long[] cramer(long[][] m) {
        long bottom = determinant(m);
        if (bottom == 0) {
            return null;
        }
        long[] parts = new long[m.length - 1];
        long divisor = 0;
        for (int i = 0; i < parts.length; i++) {
            long[][] n = new long[m.length][];
            for (int r = 0; r < m.length; r++) {
                n[r] = m[r].clone();
                n[r][i] = r == 0 ? 1 : 0;
            }
            parts[i] = determinant(n) * Long.signum(bottom);
            if (parts[i] < 0) {
                return null;
            }
            divisor = gcd(divisor, parts[i]);
        }
        for (int i = 0; i < parts.length; i++) {
            parts[i] /= divisor;
        }
        return parts;
    }

    private static void add(List<long[]> sorted, long[] mix) {
        int place = 0;
        while (place < sorted.size() && compare(sorted.get(place), mix) < 0) {
            place++;
        }
        if (place == sorted.size() || compare(sorted.get(place), mix) != 0) {
            sorted.add(place, mix);
        }
    }

    // What is due.

    private static List<long[][]> equilibria(long[][][] pay, List<long[]> xs, List<long[]> ys) {
        long[][] columnsGain = pay[1];
        long[][] rowsGain = turned(pay[0]);
        List<long[][]> found = new ArrayList<>();
        for (long[] x : xs) {
            for (long[] y : ys) {
                int columns = repliesTo(columnsGain, x, 7);
                int rows = repliesTo(rowsGain, y, 7);
                if ((used(x) & ~rows) == 0 && (used(y) & ~columns) == 0) {
                    found.add(new long[][] {x, y});
                }
            }
        }
        return found;
    }

    private static void checkEquilibria(BimatrixGames g, long[][][] pay, List<long[][]> due) {
        due("equilibria()", g.equilibria(), due.size());
        for (int k = -1; k <= due.size(); k++) {
            for (int side = 0; side < 2; side++) {
                boolean there = k >= 0 && k < due.size();
                long[] mix = there ? due.get(k)[side] : new long[0];
                String at = "(" + k + ", " + side;
                for (int i = 0; i < 3; i++) {
                    long part = !there ? BimatrixGames.NONE : i < mix.length ? mix[i] : 0;
                    due("part" + at + ", " + i + ")", g.part(k, side, i), part);
                }
                due("whole" + at + ")", g.whole(k, side), there ? sum(mix) : BimatrixGames.NONE);
                long top = BimatrixGames.NONE;
                long bottom = BimatrixGames.NONE;
                if (there) {
                    long[] x = due.get(k)[0];
                    long[] y = due.get(k)[1];
                    long all = 0;
                    for (int j = 0; j < y.length; j++) {
                        all += y[j] * gain(pay[side], x, j);
                    }
                    long d = gcd(all, sum(x) * sum(y));
                    top = all / d;
                    bottom = sum(x) * sum(y) / d;
                }
                due("getsTop" + at + ")", g.getsTop(k, side), top);
                due("getsBottom" + at + ")", g.getsBottom(k, side), bottom);
            }
        }
    }

    private static int pure(long[][][] pay) {
        int rows = pay[0].length;
        int columns = pay[0][0].length;
        int found = 0;
        for (int i = 0; i < rows; i++) {
            for (int j = 0; j < columns; j++) {
                long[] x = new long[rows];
                long[] y = new long[columns];
                x[i] = 1;
                y[j] = 1;
                if (!equilibria(pay, List.of(x), List.of(y)).isEmpty()) {
                    found |= 1 << (3 * i + j);
                }
            }
        }
        return found;
    }

    private static void checkSure(BimatrixGames g, int side, long top, long bottom) {
        long d = gcd(top, bottom);
        due("sureTop(" + side + ")", g.sureTop(side), top / d);
        due("sureBottom(" + side + ")", g.sureBottom(side), bottom / d);
    }

    private interface Replies {
        int among(int side, int own, int other);
    }

    private static void checkReplies(BimatrixGames g, int rows, int columns, Replies replies) {
        int r = (1 << rows) - 1;
        int c = (1 << columns) - 1;
        due("replies(0)", g.replies(0), replies.among(0, r, c));
        due("replies(1)", g.replies(1), replies.among(1, c, r));
        while (true) {
            int nextR = replies.among(0, r, c);
            int nextC = replies.among(1, c, r);
            if (nextR == r && nextC == c) {
                break;
            }
            r = nextR;
            c = nextC;
        }
        due("left()", g.left(), r | c << 3);
    }

    // Small games, by trying all mixes.

    private static void checkByMixes(BimatrixGames g, long[][][] pay, int mostWhole) {
        int rows = pay[0].length;
        int columns = pay[0][0].length;
        List<List<long[]>> all = List.of(mixes(rows, mostWhole), mixes(columns, mostWhole));
        // Side s mixes: what it gets itself, and what the other gets.
        long[][][] own = {pay[0], turned(pay[1])};
        long[][][] others = {pay[1], turned(pay[0])};
        List<List<long[]>> corners = List.of(new ArrayList<>(), new ArrayList<>());
        for (int side = 0; side < 2; side++) {
            long top = -9;
            long bottom = 1;
            for (long[] mix : all.get(side)) {
                if (isCorner(others[side], mix)) {
                    add(corners.get(side), mix);
                }
                long least = Long.MAX_VALUE;
                for (int j = 0; j < own[side][0].length; j++) {
                    least = Math.min(least, gain(own[side], mix, j));
                }
                if (least * bottom > top * sum(mix)) {
                    top = least;
                    bottom = sum(mix);
                }
            }
            checkSure(g, side, top, bottom);
        }
        checkEquilibria(g, pay, equilibria(pay, corners.get(0), corners.get(1)));
        due("pure()", g.pure(), pure(pay));
        checkReplies(g, rows, columns, (side, mine, other) -> {
            int found = 0;
            for (long[] mix : all.get(1 - side)) {
                if ((used(mix) & ~other) == 0) {
                    found |= repliesTo(others[1 - side], mix, mine);
                }
            }
            return found;
        });
    }

    // Large games, by solving.

    /** The smallest loss of a mix, as top and bottom. */
    private static long[] smallestLoss(long[][] t) {
        long top = 0;
        long bottom = 0;
        for (long[] mix : solvedCorners(t)) {
            long loss = gain(t, mix, Integer.numberOfTrailingZeros(repliesTo(t, mix, 7)));
            if (bottom == 0 || loss * bottom < top * sum(mix)) {
                top = loss;
                bottom = sum(mix);
            }
        }
        return new long[] {top, bottom};
    }

    /** A choice is a reply to no mix iff another mix of its side gets more than it against all choices. */
    private static boolean isBeaten(long[][] t, int choice, int own, int other) {
        long[][] less = new long[Integer.bitCount(own)][Integer.bitCount(other)];
        int r = 0;
        for (int i = 0; i < t.length; i++) {
            if ((own >> i & 1) == 1) {
                int c = 0;
                for (int j = 0; j < t[0].length; j++) {
                    if ((other >> j & 1) == 1) {
                        less[r][c++] = t[choice][j] - t[i][j];
                    }
                }
                r++;
            }
        }
        return smallestLoss(less)[0] < 0;
    }

    private static void checkBySolving(BimatrixGames g, long[][][] pay) {
        long[][][] own = {pay[0], turned(pay[1])};
        List<long[]> xs = solvedCorners(pay[1]);
        List<long[]> ys = solvedCorners(turned(pay[0]));
        checkEquilibria(g, pay, equilibria(pay, xs, ys));
        due("pure()", g.pure(), pure(pay));
        for (int side = 0; side < 2; side++) {
            // What a side can be sure of is the least that the other side can hold it to.
            long[] held = smallestLoss(turned(own[side]));
            checkSure(g, side, held[0], held[1]);
        }
        checkReplies(g, pay[0].length, pay[0][0].length, (side, mine, other) -> {
            int found = 0;
            for (int i = 0; i < own[side].length; i++) {
                if ((mine >> i & 1) == 1 && !isBeaten(own[side], i, mine, other)) {
                    found |= 1 << i;
                }
            }
            return found;
        });
    }

    private static BimatrixGames set(long[][][] pay) {
        BimatrixGames g = new BimatrixGames(pay[0].length, pay[0][0].length);
        payAll(g, pay);
        return g;
    }

    private static void payAll(BimatrixGames g, long[][][] pay) {
        for (int side = 0; side < 2; side++) {
            for (int i = 0; i < pay[0].length; i++) {
                for (int j = 0; j < pay[0][0].length; j++) {
                    due("pay", g.pay(side, 3 * i + j, (int) pay[side][i][j]) ? 1 : 0, 1);
                }
            }
        }
    }

    private static long[][][] made(Random random, int rows, int columns, int most) {
        long[][][] pay = new long[2][rows][columns];
        int kind = random.nextInt(3);
        for (int i = 0; i < rows; i++) {
            for (int j = 0; j < columns; j++) {
                pay[0][i][j] = random.nextInt(2 * most + 1) - most;
                pay[1][i][j] = kind == 0 ? -pay[0][i][j] : random.nextInt(2 * most + 1) - most;
            }
        }
        return pay;
    }

    private static long[][][] exchanged(long[][][] pay) {
        return new long[][][] {turned(pay[1]), turned(pay[0])};
    }

    private static void checkBoth(long[][][] pay, int mostWhole, String name) {
        game = name + " " + java.util.Arrays.deepToString(pay);
        // A new object each time: after 512 calls an object's answers are free.
        if (mostWhole > 0) {
            checkByMixes(set(pay), pay, mostWhole);
        }
        checkBySolving(set(pay), pay);
        game = "exchanged " + game;
        BimatrixGames h = set(pay);
        h.exchange();
        checkBySolving(h, exchanged(pay));
    }

    /** Nothing of the answers for earlier payments stays in the object. */
    private static void checkChanged(long[][][] earlier, long[][][] pay) {
        BimatrixGames g = set(earlier);
        g.equilibria();
        g.exchange();
        g.equilibria();
        g.exchange();
        payAll(g, pay);
        game = "after others " + java.util.Arrays.deepToString(pay);
        checkBySolving(g, pay);
    }

    public static void main(String[] args) {
        Random random = new Random(20261115);
        for (int rows = 1; rows <= 3; rows++) {
            for (int columns = 1; columns <= 3; columns++) {
                // Two choices paid alike fix parts of at most 18 + 18; three, with payments of -1 to 1, 8 + 8 + 8.
                boolean square = rows == 3 && columns == 3;
                for (int n = 0; n < 60; n++) {
                    int most = square ? 1 : new int[] {1, 2, 9}[n % 3];
                    checkBoth(made(random, rows, columns, most), square ? 24 : 4 * most, "small");
                }
                for (int n = 0; n < 400; n++) {
                    checkBoth(made(random, rows, columns, new int[] {1, 2, 3, 5, 9}[n % 5]), 0, "large");
                }
            }
        }
        for (int n = 0; n < 4000; n++) {
            checkBoth(made(random, 3, 3, 1 + n % 9), 0, "large");
        }
        for (int n = 0; n < 1000; n++) {
            int rows = 1 + random.nextInt(3);
            int columns = 1 + random.nextInt(3);
            int most = 1 + random.nextInt(3);
            checkChanged(made(random, rows, columns, most), made(random, rows, columns, most));
        }
        System.out.println(wrong == 0 ? "all answers are as due" : wrong + " answers are not as due");
        if (wrong != 0) {
            System.exit(1);
        }
    }
}
