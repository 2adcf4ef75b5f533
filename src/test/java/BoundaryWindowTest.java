/** Promises 13 to 20, sentence by sentence: THE WINDOW, THE SHEET, THE SCALE and places as floats, at their ends. */
public final class BoundaryWindowTest {
    private static final int UNKNOWN = DrawLabels.UNKNOWN, OUTSIDE = DrawLabels.OUTSIDE, NOT = DrawLabels.NOT;
    private static final int LEAST = Integer.MIN_VALUE, MOST = Integer.MAX_VALUE;

    public static void main(String[] args) {
        windowTooFar();
        windowInOrder();
        fitNone();
        fitLeast();
        fitThoseOfTheKind();
        fitFallen();
        fitHidden();
        fitNow();
        sideNumbers();
        sheetNumbers();
        sheetMargin();
        gridNumbers();
        hatchNumbers();
        scaleNone();
        scaleLesser();
        scaleLeastTerms();
        scaleAtItsEnds();
        singleRefused();
        singleCode();
        singlePlace();
        singleAsFloats();
        singleLeastTerms();
        singleFirstPoint();
        singleNextFloat();
        Due.end();
    }

    private static void sides(DrawLabels d, int left, int right, int bottom, int top) {
        int[] due = {left, right, bottom, top};
        for (int what = 0; what < 4; what++) {
            Due.due("side(" + what + ")", d.side(what), due[what]);
        }
    }

    private static void windowTooFar() {
        Due.about("13: LEFT, RIGHT, BOTTOM, TOP (-40000 .. 40000); OUTSIDE");
        DrawLabels d = new DrawLabels();
        d.window(-7, 8, -9, 10);
        Due.due("LEFT -40001", d.window(-40001, 0, 0, 1), OUTSIDE);
        Due.due("RIGHT 40001", d.window(0, 40001, 0, 1), OUTSIDE);
        Due.due("BOTTOM -40001", d.window(0, 1, -40001, 0), OUTSIDE);
        Due.due("TOP 40001", d.window(0, 1, 0, 40001), OUTSIDE);
        Due.due("LEFT and RIGHT -40001", d.window(-40001, -40001, 0, 1), OUTSIDE);
        Due.due("LEFT and RIGHT 40001", d.window(40001, 40001, 0, 1), OUTSIDE);
        Due.due("BOTTOM and TOP -40001", d.window(0, 1, -40001, -40001), OUTSIDE);
        Due.due("BOTTOM and TOP 40001", d.window(0, 1, 40001, 40001), OUTSIDE);
        Due.due("all as far as can be", d.window(LEAST, MOST, LEAST, MOST), OUTSIDE);
        sides(d, -7, 8, -9, 10);
        Due.due("the greatest one", d.window(-40000, 40000, -40000, 40000), 1);
        sides(d, -40000, 40000, -40000, 40000);
        Due.due("at one corner", d.window(40000, 40000, -40000, -40000), 1);
        sides(d, 40000, 40000, -40000, -40000);
        Due.due("at another one", d.window(-40000, -40000, 40000, 40000), 1);
        sides(d, -40000, -40000, 40000, 40000);
    }

    private static void windowInOrder() {
        Due.about("13: LEFT not above RIGHT, BOTTOM not above TOP");
        DrawLabels d = new DrawLabels();
        Due.due("LEFT = RIGHT, BOTTOM = TOP", d.window(5, 5, 6, 6), 1);
        sides(d, 5, 5, 6, 6);
        Due.due("LEFT 1 above RIGHT", d.window(6, 5, 0, 9), OUTSIDE);
        Due.due("BOTTOM 1 above TOP", d.window(0, 9, 6, 5), OUTSIDE);
        Due.due("both", d.window(6, 5, 6, 5), OUTSIDE);
        sides(d, 5, 5, 6, 6);
    }

    private static void fitNone() {
        Due.about("14: NOT: none");
        DrawLabels d = new DrawLabels();
        Due.due("nothing at all", d.fit(), NOT);
        d.point(7, 7);
        d.solid(0, 1);
        d.vertex(0, 1, 1, 1);
        Due.due("POINTS and SOLIDS are no OBJECTS", d.fit(), NOT);
        d.object(0, 0, 0, 0);
        d.hide(0, true);
        Due.due("all of HIDDEN KINDS", d.fit(), NOT);
        sides(d, 0, 100, 0, 100);
        d.hide(0, false);
        d.hide(8, true);
        d.hide(9, true);
        Due.due("HIDDEN SOLIDS and EDGES are no OBJECTS", d.fit(), 1);
        sides(d, 7, 7, 7, 7);
    }

    private static void fitLeast() {
        Due.about("14: the least one that HAS all POINTS of all OBJECTS");
        DrawLabels d = Desks.points(-5, 3, 8, -2, 4, 9, 500, 500, -500, -500);
        d.object(5, 0, 1, 2);
        Due.due("an ANGLE's three", d.fit(), 1);
        sides(d, -5, 8, -2, 9);
        d.object(6, 0, 1, 3);
        Due.due("n of TICKS is no POINT", d.fit(), 2);
        sides(d, -5, 8, -2, 9);
        d.object(0, 0, 3, 3);
        Due.due("b of a DOT is none of its POINTS", d.fit(), 3);
        sides(d, -5, 8, -2, 9);
        d.object(4, 1, 2, 3);
        Due.due("c of a CIRCLE is none of its POINTS", d.fit(), 4);
        sides(d, -5, 8, -2, 9);
        Desks.area(d, 0, 1, 2, 0, 1, 2, 0, 1, 2, 0, 1, 3);
        Due.due("the twelfth of an AREA", d.fit(), 5);
        sides(d, -5, 500, -2, 500);
        d.object(2, 0, 4, 0);
        Due.due("b of a LINE", d.fit(), 6);
        sides(d, -500, 500, -500, 500);
    }

    private static void fitThoseOfTheKind() {
        Due.about("14: all POINTS of all OBJECTS, and no other");
        int[][] due = {{1, 1, 2, 2}, {1, 3, 2, 4}, {1, 3, 2, 4}, {1, 3, 2, 4}, {1, 3, 2, 4}, {1, 7, 2, 8}, {1, 3, 2, 4}};
        for (int kind = 0; kind <= 6; kind++) {
            DrawLabels d = Desks.points(-900, 900, 1, 2, 3, 4, 7, 8);
            d.object(kind, 1, 2, 3);
            Due.due("fit() of KIND " + kind, d.fit(), 1);
            sides(d, due[kind][0], due[kind][1], due[kind][2], due[kind][3]);
        }
        DrawLabels d = Desks.points(-900, 900, 1, 2, 3, 4, 7, 8);
        Desks.area(d, 3, 2, 1);
        Due.due("fit() of an AREA", d.fit(), 1);
        sides(d, 1, 7, 2, 8);
    }

    private static void fitFallen() {
        Due.about("14: (be they FALLEN)");
        DrawLabels d = Desks.points(3, 4, 20, 30, 40, 30, 30, 30);
        d.object(1, 0, 0, 0);
        Due.due("a PIECE on one POINT", d.fit(), 1);
        sides(d, 3, 3, 4, 4);
        Desks.area(d, 1, 2, 3);
        Due.due("an AREA of MEASURE 0", d.fit(), 2);
        sides(d, 3, 40, 4, 30);
    }

    private static void fitHidden() {
        Due.about("14: of KINDS that are not HIDDEN: how many OBJECTS these are");
        DrawLabels d = Desks.eachKind();
        for (int kind = 0; kind < 8; kind++) {
            d.hide(kind, true);
            Due.due("fit() without KIND " + kind, d.fit(), 7);
            d.hide(kind, false);
        }
        Due.due("fit() of all", d.fit(), 8);
    }

    private static void fitNow() {
        Due.about("14: as they are now");
        DrawLabels d = Desks.points(-20000, -20000, 20000, 20000);
        d.move(0, -100, -100);
        d.move(1, 100, 100);
        d.object(1, 0, 1, 0);
        d.tick(100);
        Due.due("fit() at THE TICK 100", d.fit(), 1);
        sides(d, -30000, 30000, -30000, 30000);
        d.tick(0);
        sides(d, -30000, 30000, -30000, 30000);
        Due.due("fit() at THE TICK 0", d.fit(), 1);
        sides(d, -20000, 20000, -20000, 20000);
    }

    private static void sideNumbers() {
        Due.about("15: What = 0 LEFT, 1 RIGHT, 2 BOTTOM, 3 TOP. OUTSIDE");
        DrawLabels d = new DrawLabels();
        d.window(1, 2, 3, 4);
        int[] wrong = {-1, 4, LEAST, MOST};
        for (int n : wrong) {
            Due.due("side(" + n + ")", d.side(n), OUTSIDE);
        }
        sides(d, 1, 2, 3, 4);
    }

    private static void sheetNumbers() {
        Due.about("16: W wide, H high (16 .. 400); OUTSIDE");
        DrawLabels d = new DrawLabels();
        int[] wrong = {15, 401, 0, -16, LEAST, MOST};
        for (int n : wrong) {
            Due.due("sheet(" + n + ", 50, 0)", d.sheet(n, 50, 0), OUTSIDE);
            Due.due("sheet(50, " + n + ", 0)", d.sheet(50, n, 0), OUTSIDE);
        }
        d.draw();
        Due.due("it stays", Due.text(d), "F 100 100\n");
        int[][] ends = {{16, 400}, {400, 16}, {16, 16}, {400, 400}};
        for (int[] e : ends) {
            Due.due("sheet(" + e[0] + ", " + e[1] + ", 0)", d.sheet(e[0], e[1], 0), 1);
            d.draw();
            Due.due("F", Due.text(d), "F " + e[0] + " " + e[1] + "\n");
        }
    }

    private static void sheetMargin() {
        Due.about("16: a MARGIN m (0 .. 7); OUTSIDE");
        DrawLabels d = new DrawLabels();
        int[] wrong = {-1, 8, LEAST, MOST};
        for (int n : wrong) {
            Due.due("sheet(50, 50, " + n + ")", d.sheet(50, 50, n), OUTSIDE);
            Due.due("UP as it was", d.scale(true), 1);
            Due.due("DOWN as it was", d.scale(false), 1);
        }
        Due.due("sheet(100, 100, 7)", d.sheet(100, 100, 7), 1);
        Due.due("UP: 86 / 100", d.scale(true), 43);
        Due.due("DOWN", d.scale(false), 50);
        Due.due("sheet(100, 100, 0)", d.sheet(100, 100, 0), 1);
        Due.due("UP", d.scale(true), 1);
        Due.about("Terms 3: (W - 2 m) / (RIGHT - LEFT) and (H - 2 m) / (TOP - BOTTOM)");
        d.sheet(100, 400, 7);
        scale(d, 43, 50);
        d.sheet(400, 100, 7);
        scale(d, 43, 50);
        Due.about("Terms 3: ON THE SHEET about its middle, whatever THE MARGIN is");
        d.sheet(100, 100, 5);
        Desks.dots(d, 0, 0, 100, 100);
        Due.due("the corners of THE WINDOW", Desks.drawn(d), "D 5 95 0\nD 95 5 0\n");
    }

    private static void gridNumbers() {
        Due.about("17: THE GRID's step becomes g (0 .. 40000): what it was. OUTSIDE");
        DrawLabels d = new DrawLabels();
        int[] wrong = {-1, 40001, LEAST, MOST};
        Due.due("grid(40000)", d.grid(40000), 0);
        for (int n : wrong) {
            Due.due("grid(" + n + ")", d.grid(n), OUTSIDE);
        }
        Due.due("grid(1)", d.grid(1), 40000);
        Due.due("grid(0)", d.grid(0), 1);
        Due.due("grid(0) again", d.grid(0), 0);
    }

    private static void hatchNumbers() {
        Due.about("18: THE HATCH (10 .. 1000; 10 at first) becomes h: what it was. OUTSIDE");
        DrawLabels d = new DrawLabels();
        int[] wrong = {9, 1001, 0, -10, LEAST, MOST};
        Due.due("hatch(1000)", d.hatch(1000), 10);
        for (int n : wrong) {
            Due.due("hatch(" + n + ")", d.hatch(n), OUTSIDE);
        }
        Due.due("hatch(10)", d.hatch(10), 1000);
        Due.due("hatch(11)", d.hatch(11), 10);
    }

    private static void scale(DrawLabels d, int up, int down) {
        Due.due("scale(true)", d.scale(true), up);
        Due.due("code()", d.code(), down == 0 ? 6 : 0);
        Due.due("scale(false)", d.scale(false), down);
        Due.due("code()", d.code(), down == 0 ? 6 : 0);
    }

    private static void scaleNone() {
        Due.about("19: CODE 6 (there is none, if one of both is divided by 0)");
        DrawLabels d = new DrawLabels();
        scale(d, 1, 1);
        d.window(5, 5, 0, 100);
        scale(d, 0, 0);
        d.window(5, 6, 0, 100);
        scale(d, 1, 1);
        d.window(0, 100, 5, 5);
        scale(d, 0, 0);
        d.sheet(400, 400, 7);
        scale(d, 0, 0);
        d.window(0, 0, 0, 0);
        scale(d, 0, 0);
        d.object(0, d.point(3, 3), 0, 0);
        d.window(0, 1, 0, 1);
        d.fit();
        scale(d, 0, 0);
    }

    private static void scaleLesser() {
        Due.about("19: THE SCALE is the lesser of both");
        DrawLabels d = new DrawLabels();
        d.sheet(100, 101, 0);
        d.window(0, 30, 0, 30);
        scale(d, 10, 3);
        d.sheet(101, 100, 0);
        scale(d, 10, 3);
        d.sheet(100, 100, 0);
        d.window(0, 30, 0, 31);
        scale(d, 100, 31);
        d.window(0, 31, 0, 30);
        scale(d, 100, 31);
        Due.about("19: both alike");
        d.sheet(50, 100, 0);
        d.window(0, 15, 0, 30);
        scale(d, 10, 3);
        Due.about("19: the lesser of two that hardly differ");
        // 399 / 79799 is above 400 / 79999, as 399 * 79999 is 1 above 400 * 79799
        d.sheet(399, 400, 0);
        d.window(-40000, 39799, -40000, 39999);
        scale(d, 400, 79999);
        d.sheet(400, 399, 0);
        d.window(-40000, 39999, -40000, 39799);
        scale(d, 400, 79999);
    }

    private static void scaleLeastTerms() {
        Due.about("19: a fraction UP / DOWN in least terms");
        DrawLabels d = new DrawLabels();
        d.window(0, 60, 0, 40);
        scale(d, 5, 3);
        d.window(0, 50, 0, 50);
        scale(d, 2, 1);
        d.window(0, 200, 0, 1);
        scale(d, 1, 2);
        d.window(0, 99, 0, 1);
        scale(d, 100, 99);
    }

    private static void scaleAtItsEnds() {
        Due.about("19: the least and the greatest");
        DrawLabels d = new DrawLabels();
        d.sheet(16, 16, 7);
        d.window(-40000, 40000, -40000, 40000);
        scale(d, 1, 40000);
        d.sheet(400, 400, 0);
        d.window(39999, 40000, -40000, -39999);
        scale(d, 400, 1);
    }

    private static void singleRefused() {
        Due.about("20: UNKNOWN, OUTSIDE: answered as floats");
        DrawLabels d = Desks.points(3, 4);
        int[] wrong = {-1, 3, LEAST, MOST};
        for (int n : wrong) {
            Due.due("single(0, " + n + ")", d.single(0, n), -100002.0f);
            Due.due("UNKNOWN is ahead of OUTSIDE", d.single(1, n), -100001.0f);
        }
        for (int what = 0; what < 3; what++) {
            Due.due("single(1, " + what + ")", d.single(1, what), -100001.0f);
            Due.due("single(-1, " + what + ")", d.single(-1, what), -100001.0f);
        }
    }

    private static void singleCode() {
        Due.about("20: CODE 6 (what = 0, 1: no SCALE)");
        DrawLabels d = Desks.points(3, 4);
        Due.due("single(0, 0) with a SCALE", d.single(0, 0), 3.0f);
        Due.due("code()", d.code(), 0);
        d.window(0, 9, 4, 4);
        for (int what = 0; what < 2; what++) {
            Due.due("single(0, " + what + ")", d.single(0, what), 0.0f);
            Due.due("code()", d.code(), 6);
            Due.due("a refusal leaves CODE", d.single(0, 3), -100002.0f);
            Due.due("code()", d.code(), 6);
            Due.due("a refusal leaves CODE", d.single(1, 2), -100001.0f);
            Due.due("code()", d.code(), 6);
            Due.due("single(0, 2) needs no SCALE", d.single(0, 2), 25.0f);
            Due.due("code()", d.code(), 0);
        }
        d.single(0, 9);
        Due.due("a refusal leaves CODE 0, too", d.code(), 0);
    }

    private static void singlePlace() {
        Due.about("20: the exact X ON THE SHEET; 1 Y likewise");
        DrawLabels d = Desks.points(0, 0, 100, 100, -50, -25, 1, 2);
        float[] x = {0.0f, 100.0f, -50.0f, 1.0f};
        float[] y = {100.0f, 0.0f, 125.0f, 98.0f};
        for (int p = 0; p < 4; p++) {
            Due.due("single(" + p + ", 0)", d.single(p, 0), x[p]);
            Due.due("single(" + p + ", 1)", d.single(p, 1), y[p]);
        }
        Due.due("0 without a sign", Float.floatToRawIntBits(d.single(0, 0)), 0);
        d.window(0, 300, 0, 300);
        Due.due("it is not rounded", d.single(3, 0), 1.0f / 3.0f);
        Due.due("nor is Y", d.single(3, 1), 298.0f / 3.0f);
        Due.due("below above 0", d.single(2, 0), -50.0f / 3.0f);
        d.sheet(17, 18, 0);
        d.window(0, 3, 0, 3);
        // 9 - (2 - 3 / 2) 17 / 3: 37 / 6, which no number divides
        Due.due("in least terms as it is", d.single(3, 1), 37.0f / 6.0f);
        d.sheet(100, 100, 0);
        d.window(0, 1, 0, 1);
        d.move(3, 0, 100);
        d.tick(100);
        Due.due("as it is now", d.single(3, 1), -1000100.0f);
    }

    private static void singleAsFloats() {
        Due.about("20: both numbers as floats, the one by the other");
        DrawLabels d = Desks.points(19006, 0);
        d.sheet(399, 400, 0);
        d.window(-39995, 39990, -39995, 39990);
        // 399 (19006 + 39995) / 79985: the nearest float to it is 294.32266
        Due.due("X is 23541399 / 79985", d.single(0, 0), 23541400.0f / 79985.0f);
        Due.due("that is not the nearest float", d.single(0, 0), 294.3227f);
    }

    private static void singleLeastTerms() {
        Due.about("20: as a fraction in least terms");
        DrawLabels d = Desks.points(19000, 0);
        d.sheet(399, 400, 0);
        d.window(-39995, 39990, -39995, 39990);
        // 399 (19000 + 39995) / 79985: as 23539005 / 79985 it would be another float
        Due.due("X is 4707801 / 15997", d.single(0, 0), 4707801.0f / 15997.0f);
        Due.due("and not 23539005 / 79985", d.single(0, 0) != (float) 23539005 / (float) 79985 ? 1 : 0, 1);
    }

    private static void singleFirstPoint() {
        Due.about("20: how far it is from the POINT before it (POINT 0: from 0, 0)");
        DrawLabels d = Desks.points(3, 4, 3, 4, 5, 4, 5, 3);
        float[] due = {25.0f, 0.0f, 4.0f, 1.0f};
        for (int p = 0; p < 4; p++) {
            Due.due("single(" + p + ", 2)", d.single(p, 2), due[p]);
        }
        d.move(1, 0, 1);
        d.tick(10);
        Due.due("as both are now", d.single(2, 2), 104.0f);
        DrawLabels far = Desks.points(-20000, -20000, 20000, 20000);
        far.move(0, -100, -100);
        far.move(1, 100, 100);
        far.tick(100);
        Due.due("the farthest", far.single(1, 2), 7.2e9f);
    }

    private static void singleNextFloat() {
        Due.about("20: the square, as the float next to it");
        DrawLabels d = Desks.points(8193, 2, 8193 - 4096, 3);
        // 67125253 lies between 67125248 and 67125256; 16777217 halfway between 16777216 and 16777218
        Due.due("the nearer one is above", d.single(0, 2), 67125256.0f);
        Due.due("halfway", d.single(1, 2), 16777216.0f);
    }
}
