/** Promises 13 to 20: the window, the sheet, the scale. */
public final class WindowTest {
    private static final int UNKNOWN = DrawLabels.UNKNOWN, OUTSIDE = DrawLabels.OUTSIDE, NOT = DrawLabels.NOT;

    public static void main(String[] args) {
        window();
        fit();
        sheet();
        gridAndHatch();
        scale();
        single();
        Due.end();
    }

    private static void sides(DrawLabels d, int left, int right, int bottom, int top) {
        Due.due("side(0)", d.side(0), left);
        Due.due("side(1)", d.side(1), right);
        Due.due("side(2)", d.side(2), bottom);
        Due.due("side(3)", d.side(3), top);
    }

    private static void window() {
        DrawLabels d = new DrawLabels();
        Due.due("the greatest window", d.window(-40000, 40000, -40000, 40000), 1);
        sides(d, -40000, 40000, -40000, 40000);
        Due.due("one place", d.window(3, 3, 4, 4), 1);
        sides(d, 3, 3, 4, 4);
        Due.due("left above right", d.window(4, 3, 0, 1), OUTSIDE);
        Due.due("bottom above top", d.window(0, 1, 4, 3), OUTSIDE);
        Due.due("left too far", d.window(-40001, 0, 0, 1), OUTSIDE);
        Due.due("right too far", d.window(0, 40001, 0, 1), OUTSIDE);
        Due.due("bottom too far", d.window(0, 1, -40001, 0), OUTSIDE);
        Due.due("top too far", d.window(0, 1, 0, 40001), OUTSIDE);
        Due.due("all beyond", d.window(40001, 40002, 0, 1), OUTSIDE);
        sides(d, 3, 3, 4, 4);
        Due.due("side(4)", d.side(4), OUTSIDE);
        Due.due("side(-1)", d.side(-1), OUTSIDE);
    }

    private static void fit() {
        DrawLabels d = new DrawLabels();
        Due.due("nothing to fit", d.fit(), NOT);
        d.point(5, -7);
        d.point(900, 900);
        d.point(-3, 20);
        d.point(-500, 4);
        Due.due("points are not enough", d.fit(), NOT);
        d.object(0, 0, 1, 1);
        Due.due("a DOT", d.fit(), 1);
        sides(d, 5, 5, -7, -7);
        d.object(6, 0, 2, 3);
        Due.due("TICKS: n is no POINT", d.fit(), 2);
        sides(d, -3, 5, -7, 20);
        d.object(4, 3, 3, 0);
        Due.due("a fallen CIRCLE counts", d.fit(), 3);
        sides(d, -500, 5, -7, 20);
        d.hide(4, true);
        d.hide(0, true);
        Due.due("hidden KINDS do not", d.fit(), 1);
        sides(d, -3, 5, -7, 20);
        d.move(2, -100, 1);
        d.tick(100);
        Due.due("as they are now", d.fit(), 1);
        sides(d, -10003, 5, -7, 120);
        d.hide(6, true);
        Due.due("all hidden", d.fit(), NOT);
        sides(d, -10003, 5, -7, 120);
        d.object(5, 0, 1, 2);
        Due.due("all three POINTS of an ANGLE", d.fit(), 1);
        sides(d, -10003, 900, -7, 900);
        d.hide(5, true);
        d.corner(0);
        d.corner(1);
        d.corner(3);
        d.area();
        Due.due("an AREA", d.fit(), 1);
        sides(d, -500, 900, -7, 900);
    }

    private static void sheet() {
        DrawLabels d = new DrawLabels();
        Due.due("sheet(16, 400, 7)", d.sheet(16, 400, 7), 1);
        int[][] wrong = {{15, 16, 0}, {401, 16, 0}, {16, 15, 0}, {16, 401, 0}, {16, 16, -1}, {16, 16, 8}};
        for (int[] s : wrong) {
            Due.due("sheet outside", d.sheet(s[0], s[1], s[2]), OUTSIDE);
        }
        d.draw();
        Due.due("W and H", Due.text(d), "F 16 400\n");
        Due.due("UP", d.scale(true), 1);
        Due.due("DOWN: (16 - 14) / 100", d.scale(false), 50);
        Due.due("sheet(400, 16, 0)", d.sheet(400, 16, 0), 1);
        Due.due("UP", d.scale(true), 4);
        Due.due("DOWN: 16 / 100", d.scale(false), 25);
    }

    private static void gridAndHatch() {
        DrawLabels d = new DrawLabels();
        Due.due("grid(40000)", d.grid(40000), 0);
        Due.due("grid(40001)", d.grid(40001), OUTSIDE);
        Due.due("grid(-1)", d.grid(-1), OUTSIDE);
        Due.due("grid(30)", d.grid(30), 40000);
        Due.due("window", d.window(-31, 30, 1, 91), 1);
        d.sheet(122, 180, 0);
        Due.due("draw", d.draw(), 7);
        Due.due("the grid", Due.text(d), "F 122 180\nS 2 180 2 0 1\nS 62 180 62 0 1\nS 122 180 122 0 1\n"
            + "S 0 122 122 122 1\nS 0 62 122 62 1\nS 0 2 122 2 1\n");
        Due.due("grid(0)", d.grid(0), 30);
        Due.due("no grid", d.draw(), 1);
        Due.due("hatch(9)", d.hatch(9), OUTSIDE);
        Due.due("hatch(1001)", d.hatch(1001), OUTSIDE);
        Due.due("hatch(1000)", d.hatch(1000), 10);
        Due.due("hatch(10)", d.hatch(10), 1000);
    }

    private static void scale() {
        DrawLabels d = new DrawLabels();
        d.window(0, 0, 0, 10);
        Due.due("no width", d.scale(true), 0);
        Due.due("code()", d.code(), 6);
        d.window(0, 10, 5, 5);
        Due.due("no height", d.scale(false), 0);
        Due.due("code()", d.code(), 6);
        d.window(0, 40, -3, 57);
        Due.due("UP", d.scale(true), 5);
        Due.due("code()", d.code(), 0);
        Due.due("DOWN: 100 / 60 is less than 100 / 40", d.scale(false), 3);
        d.sheet(100, 100, 5);
        Due.due("UP", d.scale(true), 3);
        Due.due("DOWN: 90 / 60", d.scale(false), 2);
    }

    private static void single() {
        DrawLabels d = new DrawLabels();
        d.point(1, 2);
        d.point(4, -2);
        d.point(20000, 20000);
        d.point(-20000, -19999);
        d.window(0, 3, 0, 3);
        Due.due("single(0, 0)", d.single(0, 0), 100.0f / 3.0f);
        Due.due("code()", d.code(), 0);
        Due.due("single(0, 1)", d.single(0, 1), 100.0f / 3.0f);
        Due.due("single(1, 1)", d.single(1, 1), 500.0f / 3.0f);
        Due.due("single(0, 2)", d.single(0, 2), 5.0f);
        Due.due("single(1, 2)", d.single(1, 2), 25.0f);
        Due.due("single(3, 2)", d.single(3, 2), (float) (1600000000L + 39999L * 39999L));
        d.window(-40000, 39999, -40000, 39999);
        // X is 50 + (20000 + 1 / 2) 100 / 79999
        Due.due("single(2, 0)", d.single(2, 0), 6000000.0f / 79999.0f);
        d.move(2, 1, 0);
        d.tick(3);
        Due.due("where it is now", d.single(2, 0), 6000300.0f / 79999.0f);
        d.sheet(399, 400, 0);
        // 399 (40000 + 20003) is beyond what a float tells exactly
        Due.due("the number above as a float", d.single(2, 0), (float) 23941197 / (float) 79999);
        Due.due("single(4, 3)", d.single(4, 3), (float) UNKNOWN);
        Due.due("single(-1, 0)", d.single(-1, 0), (float) UNKNOWN);
        Due.due("single(0, 3)", d.single(0, 3), (float) OUTSIDE);
        Due.due("single(0, -1)", d.single(0, -1), (float) OUTSIDE);
        Due.due("refusals leave CODE", d.code(), 0);
        d.window(0, 0, 0, 3);
        Due.due("no SCALE", d.single(0, 0), 0.0f);
        Due.due("code()", d.code(), 6);
        Due.due("no SCALE needed", d.single(0, 2), 5.0f);
        Due.due("code()", d.code(), 0);
        Due.due("no SCALE", d.single(0, 1), 0.0f);
        Due.due("single(9, 0)", d.single(9, 0), (float) UNKNOWN);
        Due.due("refusals leave CODE", d.code(), 6);
    }
}
