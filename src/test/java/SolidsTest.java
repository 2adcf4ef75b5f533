/** Promises 21 to 25: solids, and what is drawn of them. */
public final class SolidsTest {
    private static final int UNKNOWN = DrawLabels.UNKNOWN, OUTSIDE = DrawLabels.OUTSIDE, NOT = DrawLabels.NOT, FULL = DrawLabels.FULL;

    public static void main(String[] args) {
        solid();
        vertex();
        face();
        view();
        edge();
        cubeInAllViews();
        greatSolid();
        cutSolid();
        Due.end();
    }

    private static void solid() {
        DrawLabels d = new DrawLabels();
        Due.due("solid(0, 1) without points", d.solid(0, 1), UNKNOWN);
        d.point(0, 0);
        Due.due("solid(1, 0)", d.solid(1, 0), UNKNOWN);
        Due.due("solid(-1, 1)", d.solid(-1, 1), UNKNOWN);
        Due.due("solid(0, 0)", d.solid(0, 0), OUTSIDE);
        Due.due("solid(0, 51)", d.solid(0, 51), OUTSIDE);
        Due.due("solid(0, 1)", d.solid(0, 1), 0);
        Due.due("solid(0, 50)", d.solid(0, 50), 1);
        Due.due("solid 2", d.solid(0, 2), 2);
        Due.due("solid 3", d.solid(0, 2), 3);
        Due.due("solid 4", d.solid(0, 2), FULL);
        Due.due("outside ahead of full", d.solid(0, 51), OUTSIDE);
        Due.due("count(2)", d.count(2), 4);
    }

    private static void vertex() {
        DrawLabels d = new DrawLabels();
        d.point(0, 0);
        Due.due("no solid", d.vertex(0, 0, 0, 0), UNKNOWN);
        d.solid(0, 1);
        Due.due("vertex(1, 101, 0, 0)", d.vertex(1, 101, 0, 0), UNKNOWN);
        Due.due("vertex(-1, 0, 0, 0)", d.vertex(-1, 0, 0, 0), UNKNOWN);
        int[][] wrong = {{101, 0, 0}, {-101, 0, 0}, {0, 101, 0}, {0, -101, 0}, {0, 0, 101}, {0, 0, -101}};
        for (int[] v : wrong) {
            Due.due("vertex outside", d.vertex(0, v[0], v[1], v[2]), OUTSIDE);
        }
        for (int k = 0; k < 12; k++) {
            Due.due("vertex " + k, d.vertex(0, 100, -100, 100), k);
        }
        Due.due("vertex 12", d.vertex(0, 0, 0, 0), FULL);
        Due.due("outside ahead of full", d.vertex(0, 0, 0, 101), OUTSIDE);
    }

    private static void face() {
        DrawLabels d = new DrawLabels();
        d.point(0, 0);
        Due.due("solid ahead of n", d.face(0, 2, 0x210), UNKNOWN);
        d.solid(0, 1);
        for (int k = 0; k < 6; k++) {
            d.vertex(0, k, k * k, -k);
        }
        Due.due("n 2 ahead of vertices", d.face(0, 2, 0xff), OUTSIDE);
        Due.due("n 7 ahead of vertices", d.face(0, 7, 0xfffffff), OUTSIDE);
        Due.due("a vertex that there is not", d.face(0, 3, 0x610), UNKNOWN);
        Due.due("unknown ahead of one twice", d.face(0, 4, 0x6000), UNKNOWN);
        Due.due("one twice", d.face(0, 3, 0x010), NOT);
        Due.due("one twice, apart", d.face(0, 6, 0x043210), NOT);
        Due.due("bits behind n are not looked at", d.face(0, 3, 0xfffff210), 1);
        Due.due("six", d.face(0, 6, 0x543210), 2);
        for (int k = 3; k <= 10; k++) {
            Due.due("the same face again", d.face(0, 3, 0x210), k);
        }
        Due.due("face 11", d.face(0, 3, 0x210), FULL);
        Due.due("one twice ahead of full", d.face(0, 3, 0), NOT);
        Due.due("unknown ahead of full", d.face(0, 3, 0x216), UNKNOWN);
    }

    private static void view() {
        DrawLabels d = new DrawLabels();
        Due.due("view(4)", d.view(4), 0);
        Due.due("view(5)", d.view(5), OUTSIDE);
        Due.due("view(-1)", d.view(-1), OUTSIDE);
        Due.due("count(5)", d.count(5), 4);
        Due.due("view(2)", d.view(2), 4);
    }

    private static void edge() {
        DrawLabels d = new DrawLabels();
        d.point(0, 0);
        Due.due("no solid", d.edge(0, -1, 0), UNKNOWN);
        d.solid(0, 1);
        Due.due("no edges", d.edge(0, -1, 99), 0);
        d.vertex(0, 0, 0, 0);
        d.vertex(0, 10, 0, 0);
        d.vertex(0, 0, 10, 0);
        d.vertex(0, 0, 0, 10);
        d.face(0, 3, 0x132);
        d.face(0, 3, 0x012);
        int[][] due = {{0, 1, 1, 1}, {0, 2, 1, 1}, {1, 2, 0, 2}, {1, 3, 0, 1}, {2, 3, 0, 1}};
        Due.due("how many edges", d.edge(0, -1, -7), 5);
        for (int k = 0; k < 5; k++) {
            for (int what = 0; what < 4; what++) {
                Due.due("edge(0, " + k + ", " + what + ")", d.edge(0, k, what), due[k][what]);
            }
        }
        Due.due("edge(0, 5, 0)", d.edge(0, 5, 0), UNKNOWN);
        Due.due("edge(0, -2, 0)", d.edge(0, -2, 0), UNKNOWN);
        Due.due("edge(0, 5, 9)", d.edge(0, 5, 9), UNKNOWN);
        Due.due("edge(1, -1, 0)", d.edge(1, -1, 0), UNKNOWN);
        Due.due("edge(0, 0, 4)", d.edge(0, 0, 4), OUTSIDE);
        Due.due("edge(0, 0, -1)", d.edge(0, 0, -1), OUTSIDE);
    }

    /** A cube of side 10: vertex 4 z + 2 y + x; its faces turn outwards. */
    private static DrawLabels cube() {
        DrawLabels d = new DrawLabels();
        d.point(0, 0);
        d.solid(0, 1);
        for (int k = 0; k < 8; k++) {
            d.vertex(0, 10 * (k & 1), 10 * (k >> 1 & 1), 10 * (k >> 2));
        }
        int[] faces = {0x6754, 0x1320, 0x3762, 0x5104, 0x5731, 0x2640};
        for (int k = 0; k < 6; k++) {
            Due.due("cube: face", d.face(0, 4, faces[k]), k + 1);
        }
        d.window(-50, 50, -50, 50);
        return d;
    }

    private static String behind(DrawLabels d) {
        StringBuilder all = new StringBuilder();
        for (int k = 0; k < 12; k++) {
            all.append(d.edge(0, k, 2));
        }
        return all.toString();
    }

    private static void cubeInAllViews() {
        DrawLabels d = cube();
        Due.due("cube: edges", d.edge(0, -1, 0), 12);
        // the edges: 01 02 04 13 15 23 26 37 45 46 57 67
        Due.due("view 0: the face z = 10 is seen", behind(d), "111111110000");
        d.draw();
        Due.due("view 0", Due.text(d), "F 100 100\nS 50 50 60 50 1\nS 50 50 50 40 1\nS 60 50 60 40 1\n"
            + "S 50 40 60 40 1\nS 50 50 60 50 0\nS 50 50 50 40 0\nS 60 50 60 40 0\nS 50 40 60 40 0\n");
        d.view(1);
        Due.due("view 1: the face y = 10 is seen", behind(d), "111110001110");
        d.draw();
        Due.due("view 1", Due.text(d), "F 100 100\nS 50 50 60 50 1\nS 50 50 50 60 1\nS 60 50 60 60 1\n"
            + "S 50 50 60 50 0\nS 50 50 50 60 0\nS 60 50 60 60 0\nS 50 60 60 60 1\nS 50 60 60 60 0\n");
        d.view(2);
        Due.due("view 2: the face x = 10 is seen", behind(d), "111001101101");
        d.draw();
        Due.due("view 2", Due.text(d), "F 100 100\nS 50 50 50 40 1\nS 50 50 40 50 1\nS 50 50 50 40 0\n"
            + "S 50 50 40 50 0\nS 50 40 40 40 1\nS 50 40 40 40 0\nS 40 50 40 40 1\nS 40 50 40 40 0\n");
        d.view(3);
        Due.due("view 3: three faces are seen", behind(d), "111000000000");
        d.hide(9, true);
        d.draw();
        Due.due("view 3 without what is behind", Due.text(d), "F 100 100\nS 70 50 70 30 0\nS 70 50 60 60 0\n"
            + "S 50 30 70 30 0\nS 50 30 40 40 0\nS 70 30 60 40 0\nS 40 60 60 60 0\nS 40 60 40 40 0\n"
            + "S 60 60 60 40 0\nS 40 40 60 40 0\n");
        d.view(4);
        Due.due("view 4: three faces are seen", behind(d), "111000000000");
        d.hide(9, false);
        d.draw();
        Due.due("view 4", Due.text(d), "F 100 100\nS 50 50 60 60 1\nS 50 50 50 30 1\nS 50 50 40 60 1\n"
            + "S 60 60 60 40 0\nS 60 60 50 70 0\nS 50 30 60 40 0\nS 50 30 40 40 0\nS 60 40 50 50 0\n"
            + "S 40 60 50 70 0\nS 40 60 40 40 0\nS 50 70 50 50 0\nS 40 40 50 50 0\n");
        d.hide(8, true);
        Due.due("hidden SOLIDS", d.draw(), 1);
    }

    private static void greatSolid() {
        DrawLabels d = new DrawLabels();
        d.point(0, 0);
        d.move(0, 100, 0);
        d.tick(50);
        d.solid(0, 50);
        d.vertex(0, -100, 100, -100);
        d.vertex(0, 100, -100, 100);
        d.vertex(0, 0, 0, 100);
        d.face(0, 3, 0x210);
        d.view(4);
        d.window(-40000, 40000, -40000, 40000);
        d.draw();
        // 0: 5000, 20000; 1: 5000, -20000; 2: 0, -5000: one pixel is 800
        Due.due("m times, about where the POINT is now", Due.text(d),
            "F 100 100\nS 56 25 56 75 1\nS 56 25 50 56 1\nS 56 75 50 56 1\n");
    }

    private static void cutSolid() {
        DrawLabels d = cube();
        d.window(5, 15, 5, 15);
        d.draw();
        Due.due("what the window has", Due.text(d), "F 100 100\nS 50 100 50 50 1\nS 0 50 50 50 1\n"
            + "S 50 100 50 50 0\nS 0 50 50 50 0\n");
        d.window(10, 20, 10, 20);
        d.draw();
        Due.due("be it one place", Due.text(d), "F 100 100\nS 0 100 0 100 1\nS 0 100 0 100 1\n"
            + "S 0 100 0 100 0\nS 0 100 0 100 0\n");
        d.window(11, 20, 10, 20);
        Due.due("nothing", d.draw(), 1);
    }
}
