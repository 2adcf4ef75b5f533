/** Promises 21 to 25, and the terms of SOLIDS, sentence by sentence: where they end, and what is refused there. */
public final class BoundarySolidsTest {
    private static final int UNKNOWN = DrawLabels.UNKNOWN, OUTSIDE = DrawLabels.OUTSIDE, NOT = DrawLabels.NOT, FULL = DrawLabels.FULL;
    private static final int LEAST = Integer.MIN_VALUE, MOST = Integer.MAX_VALUE;

    public static void main(String[] args) {
        solidNumbers();
        solidsFull();
        vertexNumbers();
        verticesFull();
        faceSolidAheadOfN();
        faceNumberOfVertices();
        faceUnknownVertex();
        faceOneTwice();
        faceBits();
        facesFull();
        viewNumbers();
        edgeCountWithAnyWhat();
        edgeRefused();
        edgeOrder();
        edgesMost();
        faceSeenAboveZero();
        seenInEachView();
        behindOneFaceIsEnough();
        edgeAtOnePlace();
        vertexPlaces();
        greatest();
        cutByTheWindow();
        hiddenSolids();
        hiddenBehind();
        Due.end();
    }

    /** A SOLID at 0, 0 with the VERTICES x, y, z, x, y, z .. */
    private static DrawLabels solid(int times, int... xyz) {
        DrawLabels d = Desks.points(0, 0);
        d.solid(0, times);
        for (int k = 0; k + 2 < xyz.length; k += 3) {
            d.vertex(0, xyz[k], xyz[k + 1], xyz[k + 2]);
        }
        return d;
    }

    /** Twelve VERTICES on a curve, no three of them in a line. */
    private static DrawLabels twelve() {
        DrawLabels d = Desks.points(0, 0);
        d.solid(0, 1);
        for (int k = 0; k < 12; k++) {
            d.vertex(0, k, k * k / 2, 0);
        }
        return d;
    }

    private static void solidNumbers() {
        Due.about("21: m times as great (1 .. 50). UNKNOWN, OUTSIDE");
        DrawLabels d = Desks.points(0, 0);
        int[] wrong = {0, 51, -1, LEAST, MOST};
        for (int n : wrong) {
            Due.due("solid(0, " + n + ")", d.solid(0, n), OUTSIDE);
            Due.due("UNKNOWN is ahead of OUTSIDE", d.solid(1, n), UNKNOWN);
        }
        Due.due("solid(-1, 1)", d.solid(-1, 1), UNKNOWN);
        Due.due("solid(1, 1)", d.solid(1, 1), UNKNOWN);
        Due.due("count(2)", d.count(2), 0);
        Due.due("solid(0, 1)", d.solid(0, 1), 0);
        Due.due("solid(0, 50)", d.solid(0, 50), 1);
    }

    private static void solidsFull() {
        Due.about("21: SOLIDS (4 at most), numbered from 0 on; FULL");
        DrawLabels d = Desks.points(0, 0);
        for (int s = 0; s < 4; s++) {
            Due.due("solid " + s, d.solid(0, 1), s);
            Due.due("vertex(" + (s + 1) + ", ..)", d.vertex(s + 1, 0, 0, 0), UNKNOWN);
        }
        Due.due("the fifth", d.solid(0, 1), FULL);
        Due.due("UNKNOWN is ahead of FULL", d.solid(1, 1), UNKNOWN);
        Due.due("OUTSIDE is ahead of FULL", d.solid(0, 51), OUTSIDE);
        Due.due("count(2)", d.count(2), 4);
        Due.due("vertex(3, ..)", d.vertex(3, 0, 0, 0), 0);
    }

    private static void vertexNumbers() {
        Due.about("22: VERTICES x, y, z (-100 .. 100). UNKNOWN, OUTSIDE");
        DrawLabels d = solid(1);
        int[] wrong = {-101, 101, LEAST, MOST};
        for (int n : wrong) {
            Due.due("x " + n, d.vertex(0, n, 0, 0), OUTSIDE);
            Due.due("y " + n, d.vertex(0, 0, n, 0), OUTSIDE);
            Due.due("z " + n, d.vertex(0, 0, 0, n), OUTSIDE);
            Due.due("UNKNOWN is ahead of OUTSIDE", d.vertex(1, n, n, n), UNKNOWN);
        }
        Due.due("vertex(-1, 0, 0, 0)", d.vertex(-1, 0, 0, 0), UNKNOWN);
        Due.due("vertex(1, 0, 0, 0)", d.vertex(1, 0, 0, 0), UNKNOWN);
        Due.due("all 100", d.vertex(0, 100, 100, 100), 0);
        Due.due("all -100", d.vertex(0, -100, -100, -100), 1);
    }

    private static void verticesFull() {
        Due.about("22: up to 12 VERTICES; FULL");
        DrawLabels d = solid(1);
        d.solid(0, 1);
        for (int k = 0; k < 12; k++) {
            Due.due("vertex " + k, d.vertex(0, 0, 0, 0), k);
        }
        Due.due("the 13th", d.vertex(0, 0, 0, 0), FULL);
        Due.due("OUTSIDE is ahead of FULL", d.vertex(0, 0, 101, 0), OUTSIDE);
        Due.due("another SOLID has its own", d.vertex(1, 0, 0, 0), 0);
    }

    private static void faceSolidAheadOfN() {
        Due.about("23: UNKNOWN (the SOLID: ahead of n)");
        DrawLabels d = solid(1, 0, 0, 0, 1, 0, 0, 0, 1, 0);
        Due.due("face(1, 2, ..)", d.face(1, 2, 0x210), UNKNOWN);
        Due.due("face(-1, 7, ..)", d.face(-1, 7, 0x210), UNKNOWN);
        Due.due("face(1, 3, ..)", d.face(1, 3, 0x210), UNKNOWN);
        Due.due("face(0, 3, ..)", d.face(0, 3, 0x210), 1);
    }

    private static void faceNumberOfVertices() {
        Due.about("23: FACES of 3 to 6 VERTICES each; OUTSIDE n: ahead of VERTICES");
        DrawLabels d = twelve();
        int[] wrong = {2, 7, 0, -1, LEAST, MOST};
        for (int n : wrong) {
            Due.due("n = " + n, d.face(0, n, 0x6543210), OUTSIDE);
            Due.due("n = " + n + ", and a VERTEX that there is not", d.face(0, n, 0xfffffff), OUTSIDE);
            Due.due("n = " + n + ", and one twice", d.face(0, n, 0), OUTSIDE);
        }
        for (int n = 3; n <= 6; n++) {
            Due.due("n = " + n, d.face(0, n, 0x6543210), n - 2);
        }
    }

    private static void faceUnknownVertex() {
        Due.about("23: UNKNOWN (a VERTEX)");
        DrawLabels d = twelve();
        for (int k = 0; k < 6; k++) {
            int known = 0x543210 & ~(15 << 4 * k);
            for (int v = 12; v < 16; v++) {
                Due.due("VERTEX " + v + " as the " + k + "-th", d.face(0, 6, known | v << 4 * k), UNKNOWN);
            }
            Due.due("VERTEX 11 as the " + k + "-th", d.face(0, 6, known | 11 << 4 * k), k + 1);
        }
        Due.due("UNKNOWN is ahead of NOT", d.face(0, 3, 0xc00), UNKNOWN);
        DrawLabels none = solid(1);
        Due.due("without VERTICES", none.face(0, 3, 0x210), UNKNOWN);
        DrawLabels two = solid(1, 0, 0, 0, 1, 0, 0);
        Due.due("the third one is not there yet", two.face(0, 3, 0x210), UNKNOWN);
        two.vertex(0, 0, 1, 0);
        Due.due("now it is", two.face(0, 3, 0x210), 1);
    }

    private static void faceOneTwice() {
        Due.about("23: NOT (one twice)");
        DrawLabels d = twelve();
        for (int j = 0; j < 6; j++) {
            for (int k = 0; k < j; k++) {
                int v = 0xba9876 & ~(15 << 4 * j) | (0xba9876 >> 4 * k & 15) << 4 * j;
                Due.due("the " + k + "-th again as the " + j + "-th", d.face(0, 6, v), NOT);
            }
        }
        Due.due("the same but behind the third is fine", d.face(0, 3, 0x0210), 1);
        Due.due("two VERTICES at one place are two", coincident().face(0, 3, 0x210), 1);
    }

    private static DrawLabels coincident() {
        return solid(1, 5, 5, 5, 5, 5, 5, 9, 9, 9);
    }

    private static void faceBits() {
        Due.about("23: the k-th (from 0) in bits 4 k to 4 k + 3 of v");
        DrawLabels d = twelve();
        Due.due("what stands behind them is not looked at", d.face(0, 3, 0xfffffba9), 1);
        int[][] due = {{9, 10}, {9, 11}, {10, 11}};
        Due.due("EDGES", d.edge(0, -1, 0), 3);
        for (int k = 0; k < 3; k++) {
            Due.due("lesser of EDGE " + k, d.edge(0, k, 0), due[k][0]);
            Due.due("greater of EDGE " + k, d.edge(0, k, 1), due[k][1]);
        }
        DrawLabels six = twelve();
        Due.due("the sixth in bits 20 to 23", six.face(0, 6, 0xffb43210), 1);
        Due.due("EDGE 1 is from the first one to the sixth", six.edge(0, 1, 1), 11);
    }

    private static void facesFull() {
        Due.about("23: up to 10 FACES: how many there are; FULL");
        DrawLabels d = twelve();
        d.solid(0, 1);
        for (int k = 0; k < 3; k++) {
            d.vertex(1, k, k * k, 0);
        }
        for (int k = 1; k <= 10; k++) {
            Due.due("face " + k, d.face(0, 3, 0x210), k);
            d.face(0, 3, 0);
        }
        Due.due("the eleventh", d.face(0, 3, 0x543), FULL);
        Due.due("UNKNOWN is ahead of FULL", d.face(0, 3, 0x54c), UNKNOWN);
        Due.due("OUTSIDE is ahead of FULL", d.face(0, 7, 0x543), OUTSIDE);
        Due.due("NOT is ahead of FULL", d.face(0, 3, 0x533), NOT);
        Due.due("EDGES", d.edge(0, -1, 0), 3);
        Due.due("in how many FACES", d.edge(0, 2, 3), 10);
        Due.due("another SOLID has its own", d.face(1, 3, 0x210), 1);
    }

    private static void viewNumbers() {
        Due.about("24: THE VIEW (0 .. 4; 0 at first) becomes k: what it was. OUTSIDE");
        DrawLabels d = new DrawLabels();
        int[] wrong = {-1, 5, LEAST, MOST};
        Due.due("view(4)", d.view(4), 0);
        for (int n : wrong) {
            Due.due("view(" + n + ")", d.view(n), OUTSIDE);
            Due.due("it stays", d.count(5), 4);
        }
        Due.due("view(0)", d.view(0), 4);
        Due.due("view(0) again", d.view(0), 0);
    }

    private static void edgeCountWithAnyWhat() {
        Due.about("25: With k = -1 (any what) how many EDGES");
        DrawLabels d = twelve();
        int[] any = {0, 3, 4, -1, LEAST, MOST};
        for (int what : any) {
            Due.due("edge(0, -1, " + what + ") without FACES", d.edge(0, -1, what), 0);
        }
        d.face(0, 3, 0x210);
        for (int what : any) {
            Due.due("edge(0, -1, " + what + ")", d.edge(0, -1, what), 3);
            Due.due("UNKNOWN SOLID", d.edge(1, -1, what), UNKNOWN);
            Due.due("UNKNOWN SOLID below 0", d.edge(-1, -1, what), UNKNOWN);
        }
    }

    private static void edgeRefused() {
        Due.about("25: UNKNOWN, OUTSIDE");
        DrawLabels d = twelve();
        d.face(0, 3, 0x210);
        int[] noEdges = {3, -2, LEAST, MOST};
        int[] noWhats = {-1, 4, LEAST, MOST};
        for (int n : noEdges) {
            Due.due("edge(0, " + n + ", 0)", d.edge(0, n, 0), UNKNOWN);
            Due.due("UNKNOWN is ahead of OUTSIDE", d.edge(0, n, 4), UNKNOWN);
        }
        for (int n : noWhats) {
            Due.due("edge(0, 0, " + n + ")", d.edge(0, 0, n), OUTSIDE);
            Due.due("edge(0, 2, " + n + ")", d.edge(0, 2, n), OUTSIDE);
            Due.due("the SOLID is ahead of OUTSIDE", d.edge(1, 0, n), UNKNOWN);
        }
        DrawLabels none = twelve();
        Due.due("without FACES there is no EDGE 0", none.edge(0, 0, 0), UNKNOWN);
    }

    private static void edgeOrder() {
        Due.about("25: each pair once, by the lesser VERTEX, then by the greater (the first one follows the last one)");
        DrawLabels d = twelve();
        d.face(0, 4, 0x5a01);
        d.face(0, 3, 0x15b);
        d.face(0, 3, 0x051);
        // 1 0 a 5; b 5 1; 1 5 0
        int[][] due = {{0, 1, 2}, {0, 5, 1}, {0, 10, 1}, {1, 5, 3}, {1, 11, 1}, {5, 10, 1}, {5, 11, 1}};
        Due.due("how many", d.edge(0, -1, 0), due.length);
        for (int k = 0; k < due.length; k++) {
            Due.due("lesser of EDGE " + k, d.edge(0, k, 0), due[k][0]);
            Due.due("greater of EDGE " + k, d.edge(0, k, 1), due[k][1]);
            Due.due("in how many FACES EDGE " + k + " is", d.edge(0, k, 3), due[k][2]);
        }
    }

    private static void edgesMost() {
        Due.about("25: EDGES of as many FACES as can be");
        DrawLabels d = twelve();
        // ten FACES of six, by steps of 1, 2, 3, 4, 5 among twelve VERTICES
        int[][] faces = {{0, 1, 2, 3, 4, 5}, {6, 7, 8, 9, 10, 11}, {0, 2, 4, 6, 8, 10}, {1, 3, 5, 7, 9, 11}, {0, 3, 6, 9, 1, 4},
            {7, 10, 2, 5, 8, 11}, {0, 4, 8, 1, 5, 9}, {2, 6, 10, 3, 7, 11}, {0, 7, 1, 8, 2, 9}, {3, 10, 4, 11, 5, 6}};
        java.util.TreeSet<Integer> pairs = new java.util.TreeSet<>();
        for (int[] f : faces) {
            int v = 0;
            for (int k = 0; k < 6; k++) {
                v |= f[k] << 4 * k;
                pairs.add(100 * Math.min(f[k], f[(k + 1) % 6]) + Math.max(f[k], f[(k + 1) % 6]));
            }
            d.face(0, 6, v);
        }
        Due.due("how many", d.edge(0, -1, 0), pairs.size());
        int k = 0;
        for (int pair : pairs) {
            Due.due("lesser of EDGE " + k, d.edge(0, k, 0), pair / 100);
            Due.due("greater of EDGE " + k, d.edge(0, k, 1), pair % 100);
            k++;
        }
        Due.due("behind the last one", d.edge(0, k, 0), UNKNOWN);
    }

    private static void faceSeenAboveZero() {
        Due.about("25: A FACE is SEEN, if N . E is above 0");
        // in VIEW 4 E is (1, 1, 1); N is (0, 0, 1), (1, -2, 1), (0, 0, -1)
        int[][] rows = {{1, 0, 0, 0, 1, 0}, {1, 0, -1, 0, 1, 2}, {0, 1, 0, 1, 0, 0}};
        int[] behind = {0, 1, 1};
        for (int k = 0; k < 3; k++) {
            int[] r = rows[k];
            DrawLabels d = solid(1, 0, 0, 0, r[0], r[1], r[2], r[3], r[4], r[5]);
            d.view(4);
            d.face(0, 3, 0x210);
            for (int edge = 0; edge < 3; edge++) {
                Due.due("N . E = " + (1 - k) + ": BEHIND of EDGE " + edge, d.edge(0, edge, 2), behind[k]);
            }
        }
        DrawLabels both = solid(1, 0, 0, 0, 1, 0, -1, 0, 1, 2);
        both.view(4);
        both.face(0, 3, 0x210);
        both.face(0, 3, 0x120);
        Due.due("N . E = 0 from either side", both.edge(0, 0, 2), 1);
    }

    private static void seenInEachView() {
        Due.about("25: E: 0 (0, 0, 1), 1 (0, 1, 0), 2 (1, 0, 0), 3 (1, 1, 2), 4 (1, 1, 1)");
        // Each row: VERTICES 1 and 2 about VERTEX 0 at the origin, N, and in which VIEWS it is SEEN
        int[][] rows = {
            {1, 0, 0, 0, 1, 0, /* N 0 0 1 */ 1, 0, 0, 1, 1},
            {0, 0, 1, 1, 0, 0, /* N 0 1 0 */ 0, 1, 0, 1, 1},
            {0, 1, 0, 0, 0, 1, /* N 1 0 0 */ 0, 0, 1, 1, 1},
            {0, 1, 0, 1, 0, 0, /* N 0 0 -1 */ 0, 0, 0, 0, 0},
            {3, 3, 1, 3, 4, 2, /* N 2 -3 3 */ 1, 0, 1, 1, 1},
            {1, 0, 1, 0, 1, 2, /* N -1 -2 1 */ 1, 0, 0, 0, 0},
            {1, 0, 1, 0, 1, 1, /* N -1 -1 1 */ 1, 0, 0, 0, 0},
            {2, 0, 3, 0, 2, 3, /* N -6 -6 4 */ 1, 0, 0, 0, 0},
            {2, 0, 1, 0, 1, 1, /* N -1 -2 2 */ 1, 0, 0, 1, 0},
            {1, 0, -1, 0, 1, 2, /* N 1 -2 1 */ 1, 0, 1, 1, 0},
            {1, 0, 1, 0, -1, -2, /* N 1 2 -1 */ 0, 1, 1, 1, 1},
            {1, 0, 1, 0, -1, -1, /* N 1 1 -1 */ 0, 1, 1, 0, 1},
        };
        int[][] firsts = {{0, 0, 0}, {5, -7, 11}, {-90, 80, -70}};
        for (int[] r : rows) {
            for (int[] f : firsts) {
                DrawLabels d = solid(1, f[0], f[1], f[2], f[0] + r[0], f[1] + r[1], f[2] + r[2], f[0] + r[3], f[1] + r[4], f[2] + r[5]);
                d.face(0, 3, 0x210);
                for (int view = 0; view < 5; view++) {
                    d.view(view);
                    Due.due("BEHIND in VIEW " + view + " of " + java.util.Arrays.toString(r), d.edge(0, 0, 2), 1 - r[6 + view]);
                }
            }
        }
        Due.about("25: N is (second less first VERTEX) x (third less first)");
        DrawLabels moved = solid(1, 7, 8, 9, 8, 8, 9, 7, 9, 9, -50, -50, -50);
        moved.face(0, 4, 0x3210);
        Due.due("the first three tell it", moved.edge(0, 0, 2), 0);
        DrawLabels great = solid(1, -100, -100, -100, 100, -100, 100, -100, 100, 100);
        great.face(0, 3, 0x210);
        great.view(3);
        // N is (-40000, -40000, 40000): N . E is 0
        Due.due("great numbers", great.edge(0, 0, 2), 1);
        great.view(0);
        Due.due("great numbers", great.edge(0, 0, 2), 0);
    }

    private static void behindOneFaceIsEnough() {
        Due.about("25: one is BEHIND, if no FACE in which it is one is SEEN");
        DrawLabels d = solid(1, 0, 0, 0, 1, 0, 0, 0, 1, 0, 1, 1, 0);
        d.face(0, 3, 0x120);
        Due.due("BEHIND", d.edge(0, 2, 2), 1);
        d.face(0, 3, 0x231);
        // 1, 2 is EDGE 2 of 0 1, 0 2, 1 2, 1 3, 2 3; the second FACE is turned to the eye
        int[] due = {1, 1, 0, 0, 0};
        for (int k = 0; k < 5; k++) {
            Due.due("EDGE " + k, d.edge(0, k, 2), due[k]);
        }
        DrawLabels apart = solid(1, 0, 0, 0, 1, 0, 0, 0, 1, 0, 5, 5, 5, 6, 5, 5, 5, 6, 5);
        apart.face(0, 3, 0x210);
        apart.face(0, 3, 0x543);
        apart.face(0, 3, 0x120);
        for (int k = 0; k < 6; k++) {
            Due.due("two FACES are SEEN: EDGE " + k, apart.edge(0, k, 2), 0);
        }
    }

    private static void edgeAtOnePlace() {
        Due.about("Terms 4: Each EDGE whose ends are at two places");
        DrawLabels d = solid(1, 0, 0, 0, 0, 0, 50, 10, 0, 0, 0, 10, 50);
        d.face(0, 3, 0x210);
        d.face(0, 3, 0x310);
        // VIEW 0: 0 and 1 are at one place; 0 2, 0 3, 1 2, 1 3 are left
        Due.due("EDGES", d.edge(0, -1, 0), 5);
        Due.due("STROKES", Desks.drawn(d), "S 0 100 10 100 1\nS 0 100 0 90 1\nS 0 100 10 100 1\nS 0 100 0 90 1\n");
        DrawLabels tiny = solid(1, 0, 0, 0, 1, 0, 0, 0, 1, 0);
        tiny.face(0, 3, 0x210);
        tiny.window(-40000, 40000, -40000, 40000);
        Due.due("two places that look like one", Desks.drawn(tiny), "S 50 50 50 50 0\nS 50 50 50 50 0\nS 50 50 50 50 0\n");
    }

    private static void vertexPlaces() {
        Due.about("Terms 4: a VERTEX is at X0 + m p, Y0 + m q, where X0, Y0 is the POINT's place now");
        // VERTICES 0, 0, 0; 3, 5, 7; 1, 1, 1: N is (-2, 4, -2); in VIEW 4 the first and the third are at one place
        String[] due = {"S 50 50 53 45 1\nS 50 50 51 49 1\nS 53 45 51 49 1\n",
            "S 50 50 53 57 0\nS 50 50 51 51 0\nS 53 57 51 51 0\n",
            "S 50 50 43 45 1\nS 50 50 49 49 1\nS 43 45 49 49 1\n",
            "S 50 50 49 47 1\nS 50 50 51 49 1\nS 49 47 51 49 1\n",
            "S 50 50 46 50 1\nS 46 50 50 50 1\n"};
        DrawLabels d = solid(1, 0, 0, 0, 3, 5, 7, 1, 1, 1);
        d.face(0, 3, 0x210);
        d.window(-50, 50, -50, 50);
        for (int view = 0; view < 5; view++) {
            d.view(view);
            Due.due("VIEW " + view, Desks.drawn(d), due[view]);
        }
        DrawLabels moved = solid(3, 0, 0, 0, 1, 0, 0, 0, 2, 0);
        moved.face(0, 3, 0x210);
        moved.move(0, 10, 20);
        moved.tick(2);
        Due.due("m times, from where the POINT is now", Desks.drawn(moved), "S 20 60 23 60 0\nS 20 60 20 54 0\nS 23 60 20 54 0\n");
    }

    private static void greatest() {
        Due.about("Terms 4: m times as great (1 .. 50), VERTICES to 100: the farthest places");
        DrawLabels d = Desks.points(20000, 20000);
        d.move(0, 100, 100);
        d.tick(100);
        d.solid(0, 50);
        d.vertex(0, 100, 100, -100);
        d.vertex(0, -100, -100, 100);
        d.vertex(0, -100, 100, -100);
        d.face(0, 3, 0x210);
        d.view(3);
        // 0: 30000 + 50 * 300, the same; 1: 30000 - 15000, the same; 2: 30000 - 50 * 100, 45000; N is (0, -40000, -40000)
        d.window(0, 40000, 0, 40000);
        Due.due("cut at 40000", Desks.drawn(d), "S 100 0 38 63 1\nS 38 63 58 0 1\n");
        d.view(4);
        // 0: 30000 + 10000, 30000 + 10000; 1: 20000, 20000; 2: 30000 + 0, 30000 + 50 * 400
        Due.due("its corner is on THE WINDOW's", Desks.drawn(d),
            "S 100 0 50 50 1\nS 100 0 100 0 1\nS 50 50 67 0 1\n");
    }

    private static void cutByTheWindow() {
        Due.about("Terms 4: a STROKE of what THE WINDOW HAS of the PIECE from the lesser VERTEX to the greater");
        DrawLabels d = solid(1, 80, 80, 0, -20, -20, 0, 80, -20, 0);
        d.face(0, 3, 0x012);
        // 0 to 1 is cut at 0, 0; 0 to 2 at 80, 0; 1 to 2 is below THE WINDOW
        Due.due("cut", Desks.drawn(d), "S 80 20 0 100 1\nS 80 20 80 100 1\n");
        d.window(0, 100, -20, 80);
        Due.due("on its side, and at its corner", Desks.drawn(d), "S 80 0 0 80 1\nS 80 0 80 100 1\nS 0 100 80 100 1\n");
        d.window(80, 180, 80, 180);
        Due.due("be it one place", Desks.drawn(d), "S 0 100 0 100 1\nS 0 100 0 100 1\n");
        d.window(81, 181, 80, 180);
        Due.due("nothing", Desks.drawn(d), "");
    }

    private static DrawLabels cornerOfACube() {
        DrawLabels d = solid(1, 0, 0, 0, 10, 0, 0, 0, 10, 0, 10, 10, -10);
        d.face(0, 3, 0x210);
        d.face(0, 3, 0x130);
        return d;
    }

    private static void hiddenSolids() {
        Due.about("10: HIDDEN KINDS: 8 all SOLIDS");
        DrawLabels d = cornerOfACube();
        Due.due("seen", Desks.drawn(d).isEmpty() ? 0 : 1, 1);
        d.hide(8, true);
        Due.due("HIDDEN", Desks.drawn(d), "");
        d.hide(9, true);
        Due.due("both", Desks.drawn(d), "");
        d.hide(8, false);
        d.hide(9, false);
        for (int kind = 0; kind < 8; kind++) {
            d.hide(kind, true);
        }
        Due.due("other KINDS do not hide them", d.draw(), 6);
    }

    private static void hiddenBehind() {
        Due.about("10: 9 EDGES that are BEHIND");
        DrawLabels d = cornerOfACube();
        // 0 1, 0 2, 1 2 are of a FACE that is SEEN; 0 3 and 1 3 are not
        String seen = "S 0 100 10 100 0\nS 0 100 0 90 0\nS 10 100 0 90 0\n";
        Due.due("all", Desks.drawn(d), "S 0 100 10 100 0\nS 0 100 0 90 0\nS 0 100 10 90 1\nS 10 100 0 90 0\nS 10 100 10 90 1\n");
        d.hide(9, true);
        Due.due("without those BEHIND", Desks.drawn(d), seen);
        Due.due("edge(0, -1, 0) counts all", d.edge(0, -1, 0), 5);
        Due.due("edge(0, 2, 2) is told all the same", d.edge(0, 2, 2), 1);
    }
}
