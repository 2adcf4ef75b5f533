/** Promises 27, 28, 30 to 33 and the terms of a drawing: each kind's marks, cut and rounded, in their order. */
public final class DrawingTest {
    private static final int UNKNOWN = DrawLabels.UNKNOWN, OUTSIDE = DrawLabels.OUTSIDE, NONE = DrawLabels.NONE;

    public static void main(String[] args) {
        rounding();
        dots();
        straightOnes();
        cutsAsFractions();
        circles();
        circlesBesideEachSide();
        radiusRounded();
        angles();
        octants();
        ticks();
        areas();
        areaOverlap();
        areaOfTwelve();
        order();
        noScale();
        lostMarks();
        lostHatch();
        marks();
        octets();
        staysAsItWas();
        Due.end();
    }

    private static String drawn(DrawLabels d) {
        d.draw();
        Due.due("code() behind draw()", d.code(), 0);
        String text = Due.text(d);
        String head = "F 100 100\n";
        return text.startsWith(head) ? text.substring(head.length()) : text;
    }

    private static void rounding() {
        DrawLabels d = new DrawLabels();
        d.window(0, 200, 0, 200);
        d.point(1, 1);
        d.point(3, 3);
        d.point(2, 2);
        d.object(0, 0, 0, 0);
        d.object(0, 1, 0, 0);
        d.object(0, 2, 0, 0);
        // X 0.5, 1.5, 1; Y 99.5, 98.5, 99: a half up, on both axes
        Due.due("halves go up", drawn(d), "D 1 100 0\nD 2 99 0\nD 1 99 0\n");
        d.window(-200, 0, -200, 0);
        d.object(4, 0, 1, 0);
        // far beyond the sheet: X = 100.5; Y = -0.5 goes up to 0
        d.window(-200, 2, -200, 2);
        d.sheet(101, 101, 0);
        d.draw();
        Due.due("a place below 0", Due.text(d), "F 101 101\nD 101 1 0\nD 101 0 0\nC 101 1 1 1 0\n");
    }

    private static void dots() {
        DrawLabels d = new DrawLabels();
        int[][] at = {{0, 0}, {100, 100}, {-1, 50}, {101, 50}, {50, -1}, {50, 101}, {20, 30}};
        for (int p = 0; p < at.length; p++) {
            d.point(at[p][0], at[p][1]);
            d.object(0, p, 0, 0);
        }
        d.style(6, 2);
        Due.due("the window has its sides", drawn(d), "D 0 100 0\nD 100 0 0\nD 20 70 2\n");
    }

    private static void straightOnes() {
        DrawLabels d = new DrawLabels();
        d.point(20, 40);
        d.point(60, 40);
        d.point(150, 40);
        d.point(-50, 40);
        for (int kind = 1; kind <= 3; kind++) {
            d.object(kind, 0, 1, 0);
            d.object(kind, 1, 0, 0);
        }
        d.style(4, 1);
        Due.due("PIECE, LINE, RAY, and the other way", drawn(d), "S 20 60 60 60 0\nS 60 60 20 60 0\n"
            + "S 0 60 100 60 0\nS 100 60 0 60 0\nS 20 60 100 60 1\nS 60 60 0 60 0\n");
        DrawLabels far = new DrawLabels();
        far.point(150, 40);
        far.point(200, 40);
        far.point(200, 41);
        far.object(1, 0, 1, 0);
        far.object(3, 0, 1, 0);
        far.object(3, 1, 0, 0);
        far.object(2, 0, 1, 0);
        far.object(2, 1, 2, 0);
        far.object(1, 1, 1, 0);
        Due.due("outside of it", drawn(far), "S 100 60 0 60 0\nS 0 60 100 60 0\n");
        DrawLabels touch = new DrawLabels();
        touch.point(-10, 90);
        touch.point(10, 110);
        touch.point(100, 100);
        touch.point(200, 200);
        touch.point(100, 0);
        touch.point(100, -7);
        touch.object(1, 0, 1, 0);
        touch.object(3, 2, 3, 0);
        touch.object(1, 4, 5, 0);
        touch.object(2, 4, 5, 0);
        Due.due("be it one place", drawn(touch), "S 0 0 0 0 0\nS 100 0 100 0 0\nS 100 100 100 100 0\nS 100 0 100 100 0\n");
    }

    private static void cutsAsFractions() {
        DrawLabels d = new DrawLabels();
        d.window(0, 1, 0, 1);
        d.point(-1, 0);
        d.point(2, 1);
        d.object(1, 0, 1, 0);
        // y is 1/3 at x = 0 and 2/3 at x = 1: Y 66.67, 33.33
        Due.due("cut as a fraction, rounded once", drawn(d), "S 0 67 100 33 0\n");
        DrawLabels wide = new DrawLabels();
        wide.point(-20000, -20000);
        wide.point(20000, 20000);
        wide.move(0, -100, -100);
        wide.move(1, 100, 100);
        wide.tick(100);
        wide.object(2, 0, 1, 0);
        wide.window(-40000, 40000, -40000, 39999);
        Due.due("the farthest ones", drawn(wide), "S 0 100 100 0 0\n");
    }

    private static void circles() {
        DrawLabels d = new DrawLabels();
        d.point(50, 50);
        d.point(50, 100);
        d.point(101, 50);
        d.point(120, 120);
        d.point(80, 120);
        d.object(4, 0, 1, 0);
        d.object(4, 0, 2, 0);
        d.object(4, 3, 4, 0);
        d.style(1, 2);
        // about 120, 120 with radius 40: it passes 100, 100 at a distance of 28.3
        Due.due("all of it, part of it", drawn(d), "C 50 50 50 0 0\nC 50 50 51 1 2\nC 120 -20 40 1 0\n");
        DrawLabels e = new DrawLabels();
        e.point(103, 104);
        e.point(103, 109);
        e.point(103, 108);
        e.object(4, 0, 1, 0);
        e.object(4, 0, 2, 0);
        Due.due("it touches a corner, or not", drawn(e), "C 103 -4 5 1 0\n");
        DrawLabels f = new DrawLabels();
        f.point(-3, -4);
        f.point(101, 104);
        f.point(9, 12);
        f.window(-6, 0, -8, 0);
        f.object(4, 0, 1, 0);
        f.window(-3, 0, -4, 0);
        f.point(-8, -4);
        f.point(-9, -4);
        f.object(4, 0, 3, 0);
        f.object(4, 0, 4, 0);
        // the farthest place of the window is 5 away: that circle is met, the ones of 6 and more are all around it
        Due.due("all around the window", drawn(f), "C 13 100 125 1 0\n");
    }

    private static void circlesBesideEachSide() {
        int[][] at = {{110, 350}, {190, 350}, {150, 310}, {150, 390}};
        int[][] place = {{10, 50}, {90, 50}, {50, 90}, {50, 10}};
        for (int k = 0; k < 4; k++) {
            DrawLabels d = new DrawLabels();
            d.window(100, 200, 300, 400);
            d.point(at[k][0], at[k][1]);
            d.point(at[k][0] + 6, at[k][1] + 8);
            d.point(at[k][0] + 11, at[k][1]);
            d.object(4, 0, 1, 0);
            d.object(4, 0, 2, 0);
            String head = "C " + place[k][0] + " " + place[k][1];
            Due.due("beside side " + k, drawn(d), head + " 10 0 0\n" + head + " 11 1 0\n");
        }
        int[][] outside = {{90, 350}, {210, 350}, {150, 290}, {150, 410}};
        for (int[] o : outside) {
            DrawLabels d = new DrawLabels();
            d.window(100, 200, 300, 400);
            d.point(o[0], o[1]);
            d.point(o[0] + 6, o[1] + 8);
            d.point(o[0] + 9, o[1]);
            d.object(4, 0, 1, 0);
            d.object(4, 0, 2, 0);
            d.draw();
            Due.due("it touches a side from outside, or not", d.count(6), 2);
            Due.due("part", d.mark(1, 4), 1);
        }
    }

    private static void radiusRounded() {
        DrawLabels d = new DrawLabels();
        d.window(0, 200, 0, 200);
        d.point(100, 100);
        d.point(105, 100);
        d.point(101, 101);
        d.point(100, 101);
        d.point(102, 102);
        for (int p = 1; p < 5; p++) {
            d.object(4, 0, p, 0);
        }
        // 2.5, 0.707, 0.5, 1.414
        Due.due("the radius, a half up", drawn(d), "C 50 50 3 0 0\nC 50 50 1 0 0\nC 50 50 1 0 0\nC 50 50 1 0 0\n");
        d.window(0, 300, 0, 300);
        // 1.667, 0.471, 0.333, 0.943
        Due.due("or down", drawn(d), "C 33 67 2 0 0\nC 33 67 0 0 0\nC 33 67 0 0 0\nC 33 67 1 0 0\n");
        DrawLabels great = new DrawLabels();
        great.sheet(400, 400, 0);
        great.point(-20000, -20000);
        great.point(20000, 20000);
        great.move(0, -100, -100);
        great.move(1, 100, 100);
        great.tick(100);
        great.object(4, 0, 1, 0);
        great.window(29999, 30000, 29999, 30000);
        great.draw();
        // the square root of 7200000000 is 84852.8137..: times 400 it is 33941125.497
        Due.due("the greatest radius", Due.text(great), "F 400 400\nC -23999600 24000000 33941125 1 0\n");
    }

    private static void angles() {
        DrawLabels d = new DrawLabels();
        d.point(50, 50);
        d.point(60, 50);
        int[][] to = {{60, 51}, {50, 70}, {49, 70}, {40, 50}, {90, 50}, {60, 49}, {50, 0}, {40, 49}};
        for (int[] t : to) {
            int p = d.point(t[0], t[1]);
            d.object(5, 1, 0, p);
        }
        Due.due("k", drawn(d), "A 50 50 0 0 0\nA 50 50 0 2 1\nA 50 50 0 2 2\nA 50 50 0 4 3\n"
            + "A 50 50 0 0 4\nA 50 50 0 7 0\nA 50 50 0 6 1\nA 50 50 0 4 2\n");
        d.window(51, 100, 0, 100);
        Due.due("b outside of the window", d.draw(), 1);
        d.window(50, 60, 50, 60);
        Due.due("b on its corner", d.draw(), 9);
    }

    private static void octants() {
        DrawLabels d = new DrawLabels();
        d.point(50, 50);
        int[][] ways = {{3, 0}, {3, 1}, {3, 3}, {1, 3}, {0, 3}, {-1, 3}, {-3, 3}, {-3, 1},
            {-3, 0}, {-3, -1}, {-3, -3}, {-1, -3}, {0, -3}, {1, -3}, {3, -3}, {3, -1}};
        StringBuilder due = new StringBuilder();
        for (int k = 0; k < ways.length; k++) {
            int p = d.point(50 + ways[k][0], 50 + ways[k][1]);
            d.object(5, p, 0, p);
            due.append("A 50 50 ").append(k / 2).append(' ').append(k / 2).append(" 4\n");
        }
        Due.due("octants", drawn(d), due.toString());
    }

    private static void ticks() {
        DrawLabels d = new DrawLabels();
        d.point(0, 0);
        d.point(51, 1);
        d.point(-1, 1);
        d.point(-2, 50);
        d.point(1, 50);
        d.point(2, 50);
        d.object(6, 0, 1, 3);
        d.object(6, 1, 0, 1);
        d.object(6, 3, 4, 2);
        d.object(6, 3, 5, 2);
        // the middles: 25.5, 0.5 twice; -0.5, 50; 0, 50
        Due.due("ticks", drawn(d), "T 26 100 3 0\nT 26 100 1 4\nT 0 50 2 0\n");
        d.style(0, 2);
        Due.due("a style is not told", d.draw(), 4);
        Due.due("mark(1, 5)", d.mark(1, 5), 0);
    }

    private static void areas() {
        DrawLabels d = new DrawLabels();
        int[][] at = {{10, 10}, {40, 10}, {10, 40}};
        for (int[] p : at) {
            d.corner(d.point(p[0], p[1]));
        }
        d.area();
        d.style(0, 2);
        // y = 40 meets no side: no end is above it
        Due.due("a triangle", drawn(d), "S 10 90 40 90 2\nS 10 80 30 80 2\nS 10 70 20 70 2\n");
        d.hatch(15);
        Due.due("multiples of 15", drawn(d), "S 10 85 35 85 2\nS 10 70 20 70 2\n");
        d.window(20, 120, 15, 115);
        Due.due("cut at the left; one place is left", drawn(d), "S 0 100 15 100 2\nS 0 85 0 85 2\n");
        d.window(21, 121, 15, 115);
        Due.due("nothing is left of the upper one", drawn(d), "S 0 100 14 100 2\n");
        d.window(0, 10, 0, 30);
        d.sheet(30, 90, 0);
        d.draw();
        Due.due("cut at the right", Due.text(d), "F 30 90\nS 30 45 30 45 2\nS 30 0 30 0 2\n");
        DrawLabels low = new DrawLabels();
        low.window(-50, 50, -50, 50);
        int[][] down = {{-30, -25}, {30, -25}, {0, 20}};
        for (int[] p : down) {
            low.corner(low.point(p[0], p[1]));
        }
        low.area();
        // at y = -20 the half width is 26.67, then 20, 13.33, 6.67
        Due.due("below 0, and 0 itself", drawn(low), "S 23 70 77 70 0\nS 30 60 70 60 0\nS 37 50 63 50 0\nS 43 40 57 40 0\n");
        low.hide(7, true);
        Due.due("hidden", drawn(low), "");
    }

    private static void areaOverlap() {
        DrawLabels d = new DrawLabels();
        int[][] at = {{0, 0}, {40, 40}, {80, 0}, {80, 30}, {0, 30}};
        for (int[] p : at) {
            d.corner(d.point(p[0], p[1]));
        }
        d.area();
        // up to y = 30 two pieces; above it the tip of the dent
        Due.due("two and two", drawn(d), "S 0 100 0 100 0\nS 80 100 80 100 0\nS 0 90 10 90 0\nS 70 90 80 90 0\n"
            + "S 0 80 20 80 0\nS 60 80 80 80 0\nS 30 70 50 70 0\n");
    }

    private static void areaOfTwelve() {
        DrawLabels d = new DrawLabels();
        for (int k = 0; k < 12; k++) {
            d.corner(d.point(5 * k, k == 1 ? 30 : k % 2 * 20));
        }
        d.area();
        // all twelve sides meet y = 10, two of them at one place
        Due.due("a saw", drawn(d), "S 0 100 0 100 0\nS 10 100 10 100 0\nS 20 100 20 100 0\nS 30 100 30 100 0\n"
            + "S 40 100 40 100 0\nS 50 100 50 100 0\nS 2 90 8 90 0\nS 13 90 18 90 0\nS 23 90 28 90 0\n"
            + "S 28 90 33 90 0\nS 38 90 43 90 0\nS 48 90 53 90 0\nS 3 80 7 80 0\n");
    }

    private static void order() {
        DrawLabels d = new DrawLabels();
        for (int[] p : new int[][] {{0, 0}, {10, 0}, {10, 10}, {0, 10}}) {
            d.point(p[0], p[1]);
        }
        d.object(0, 2, 0, 0);
        for (int k = 0; k < 3; k++) d.corner(k);
        d.area();
        d.object(1, 0, 1, 0);
        for (int k = 1; k < 4; k++) d.corner(k);
        d.area();
        d.solid(0, 1);
        d.vertex(0, 0, 0, 0);
        d.vertex(0, 5, 0, 0);
        d.vertex(0, 0, 5, 0);
        d.face(0, 3, 0x210);
        d.label(0, 1);
        d.grid(100);
        d.hatch(1000);
        d.style(1, 1);
        d.style(3, 2);
        Due.due("the order of marks", drawn(d), "S 0 100 0 0 1\nS 100 100 100 0 1\nS 0 100 100 100 1\nS 0 0 100 0 1\n"
            + "S 0 100 10 100 1\nS 10 100 10 100 2\nD 10 90 0\nS 0 100 10 100 0\n"
            + "S 0 100 5 100 0\nS 0 100 0 95 0\nS 5 100 0 95 0\nW 13 86 1 0\n");
    }

    private static void noScale() {
        DrawLabels d = new DrawLabels();
        d.point(5, 5);
        d.object(0, 0, 0, 0);
        d.label(0, 1);
        d.label(0, 2);
        d.draw();
        Due.due("placed", d.placed(0), 2);
        Due.due("placed", d.placed(1), 0);
        d.grid(1);
        d.window(5, 5, 0, 10);
        Due.due("draw()", d.draw(), 0);
        Due.due("code()", d.code(), 6);
        Due.due("MARK F alone", Due.text(d), "F 100 100\n");
        int[] due = {1, 0, 10, 2, 0, 0};
        for (int what = 6; what < 12; what++) {
            Due.due("count(" + what + ")", d.count(what), due[what - 6]);
        }
        Due.due("out", d.placed(0), 8);
        Due.due("out", d.placed(1), 8);
    }

    private static void lostMarks() {
        DrawLabels d = new DrawLabels();
        d.window(0, 400, 0, 400);
        d.sheet(400, 400, 0);
        d.point(200, 200);
        d.point(200, 190);
        d.object(0, 0, 0, 0);
        d.object(1, 0, 1, 0);
        d.label(1, 1);
        d.grid(1);
        Due.due("draw()", d.draw(), 600);
        // F, 401 and 401 of the grid, D, S, W
        Due.due("count(6)", d.count(6), 600);
        Due.due("count(7)", d.count(7), 806 - 600);
        // its anchor is 200, 205; the grid's strokes are told from Y = 400 down to Y = 203: PLACE 0 meets 6 and 7, PLACE 1 only 6
        Due.due("the label of a lost one is placed", d.placed(0), 1);
        Due.due("lost strokes cost nothing", d.count(10), 25);
        Due.due("count(9)", d.count(9), 0);
        Due.due("mark(599, 0)", d.mark(599, 0), 'S');
        Due.due("mark(600, 0)", d.mark(600, 0), UNKNOWN);
        d.window(0, 298, 0, 298);
        d.grid(1);
        // F, 299 and 299, then D is the last one that is told
        d.draw();
        Due.due("the last one", d.mark(599, 0), 'D');
        Due.due("S and W are lost", d.count(7), 2);
    }

    private static void lostHatch() {
        DrawLabels d = new DrawLabels();
        d.window(0, 20000, 0, 20000);
        for (int[] p : new int[][] {{0, 0}, {20000, 0}, {20000, 20000}, {0, 20000}}) {
            d.corner(d.point(p[0], p[1]));
        }
        d.area();
        Due.due("draw()", d.draw(), 600);
        Due.due("2000 strokes and F", d.count(7), 1401);
        Due.due("the last one told", d.mark(599, 2), 70);
        d.window(5000, 15000, 0, 20000);
        Due.due("cut at the left and right", d.draw(), 600);
        Due.due("as many", d.count(7), 1401);
        d.window(20001, 30000, 0, 20000);
        Due.due("nothing is left of it", d.draw(), 1);
    }

    private static void marks() {
        DrawLabels d = new DrawLabels();
        Due.due("no drawing", d.mark(0, 0), UNKNOWN);
        d.point(7, 8);
        d.object(0, 0, 0, 0);
        d.style(0, 1);
        d.draw();
        int[] f = {'F', 100, 100, 0, 0, 0, 0};
        int[] dot = {'D', 7, 92, 1, 0, 0, 0};
        for (int what = 0; what < 7; what++) {
            Due.due("mark(0, " + what + ")", d.mark(0, what), f[what]);
            Due.due("mark(1, " + what + ")", d.mark(1, what), dot[what]);
        }
        Due.due("mark(2, 9)", d.mark(2, 9), UNKNOWN);
        Due.due("mark(-1, 0)", d.mark(-1, 0), UNKNOWN);
        Due.due("mark(1, 7)", d.mark(1, 7), OUTSIDE);
        Due.due("mark(1, -1)", d.mark(1, -1), OUTSIDE);
    }

    private static void octets() {
        DrawLabels d = new DrawLabels();
        Due.due("no drawing", d.count(8), 0);
        d.point(-7, -8);
        d.point(50, 120);
        d.object(4, 0, 1, 0);
        d.draw();
        String due = "F 100 100\nC -7 108 140 1 0\n";
        Due.due("the octets", Due.text(d), due);
        Due.due("count(8)", d.count(8), due.length());
        int fold = 17;
        for (int k = 0; k < due.length(); k++) {
            fold = 31 * fold + due.charAt(k);
            Due.due("octet(" + k + ")", d.octet(k), due.charAt(k));
        }
        Due.due("digest()", d.digest(), fold);
        Due.due("octet(-1)", d.octet(-1), NONE);
        Due.due("octet behind the last", d.octet(due.length()), NONE);
        Due.due("count(12)", d.count(12), OUTSIDE);
        Due.due("count(-1)", d.count(-1), OUTSIDE);
    }

    private static void staysAsItWas() {
        DrawLabels d = new DrawLabels();
        d.point(7, 8);
        d.object(0, 0, 0, 0);
        d.label(0, 1);
        d.draw();
        String before = Due.text(d);
        int digest = d.digest();
        d.style(0, 2);
        d.move(0, 1, 1);
        d.tick(9);
        d.sheet(50, 50, 0);
        d.window(0, 10, 0, 10);
        d.label(0, 2);
        d.hide(0, true);
        Due.due("the drawing stays", Due.text(d), before);
        Due.due("digest()", d.digest(), digest);
        Due.due("placed(0)", d.placed(0), 0);
        Due.due("a label that was not there", d.placed(1), NONE);
        Due.due("count(9)", d.count(9), 0);
        d.draw();
        Due.due("in place of the one before", Due.text(d), "F 50 50\n");
        Due.due("placed(1)", d.placed(1), 8);
        Due.due("count(9)", d.count(9), 2);
    }
}
