/** Promises 1 to 12: a new object, points, objects. */
public final class PointsTest {
    private static final int UNKNOWN = DrawLabels.UNKNOWN, OUTSIDE = DrawLabels.OUTSIDE, NOT = DrawLabels.NOT, FULL = DrawLabels.FULL;

    public static void main(String[] args) {
        newObject();
        point();
        moveTickAt();
        object();
        objectRefusals();
        cornerAndArea();
        styleAndHide();
        fallen();
        measure();
        Due.end();
    }

    private static void newObject() {
        DrawLabels d = new DrawLabels();
        for (int what = 0; what < 12; what++) {
            Due.due("new: count(" + what + ")", d.count(what), 0);
        }
        Due.due("new: code()", d.code(), 0);
        Due.due("new: octet(0)", d.octet(0), DrawLabels.NONE);
        Due.due("new: digest()", d.digest(), 17);
        Due.due("new: mark(0, 0)", d.mark(0, 0), UNKNOWN);
        int[] sides = {0, 100, 0, 100};
        for (int what = 0; what < 4; what++) {
            Due.due("new: side(" + what + ")", d.side(what), sides[what]);
        }
        Due.due("new: scale(true)", d.scale(true), 1);
        Due.due("new: scale(false)", d.scale(false), 1);
        Due.due("new: tick(5)", d.tick(5), 0);
        Due.due("new: grid(7)", d.grid(7), 0);
        Due.due("new: hatch(20)", d.hatch(20), 10);
        Due.due("new: view(1)", d.view(1), 0);
        Due.due("new: member(0, 0)", d.member(0, 0), 0);
        Due.due("new: code() behind it", d.code(), 1);
        for (int kind = 0; kind < 10; kind++) {
            Due.due("new: hide(" + kind + ", true)", d.hide(kind, true), 0);
        }
        Due.due("another new one: tick(0)", new DrawLabels().tick(0), 0);
    }

    private static void point() {
        DrawLabels d = new DrawLabels();
        int[][] wrong = {{20001, 0}, {-20001, 0}, {0, 20001}, {0, -20001}, {Integer.MIN_VALUE, 0}, {0, Integer.MAX_VALUE}};
        for (int[] p : wrong) {
            Due.due("point outside", d.point(p[0], p[1]), OUTSIDE);
        }
        Due.due("point(-20000, 20000)", d.point(-20000, 20000), 0);
        Due.due("point(20000, -20000)", d.point(20000, -20000), 1);
        Due.due("at(0, 0)", d.at(0, 0), -20000);
        Due.due("at(0, 1)", d.at(0, 1), 20000);
        Due.due("at(1, 1)", d.at(1, 1), -20000);
        for (int p = 2; p < 60; p++) {
            Due.due("point " + p, d.point(p, p), p);
        }
        Due.due("point 60", d.point(0, 0), FULL);
        Due.due("outside comes ahead of full", d.point(0, 20001), OUTSIDE);
        Due.due("count(0)", d.count(0), 60);
    }

    private static void moveTickAt() {
        DrawLabels d = new DrawLabels();
        Due.due("move without points", d.move(0, 0, 0), UNKNOWN);
        d.point(20000, -20000);
        Due.due("move(0, 100, -100)", d.move(0, 100, -100), 1);
        Due.due("at(0, 0) at tick 0", d.at(0, 0), 20000);
        Due.due("tick(100)", d.tick(100), 0);
        Due.due("at(0, 0) at tick 100", d.at(0, 0), 30000);
        Due.due("at(0, 1) at tick 100", d.at(0, 1), -30000);
        Due.due("move(0, -1, 2)", d.move(0, -1, 2), 1);
        Due.due("its start stays", d.at(0, 0), 19900);
        Due.due("y likewise", d.at(0, 1), -19800);
        Due.due("move(1, 101, 0)", d.move(1, 101, 0), UNKNOWN);
        Due.due("move(-1, 0, 0)", d.move(-1, 0, 0), UNKNOWN);
        Due.due("move(0, 101, 0)", d.move(0, 101, 0), OUTSIDE);
        Due.due("move(0, -101, 0)", d.move(0, -101, 0), OUTSIDE);
        Due.due("move(0, 0, 101)", d.move(0, 0, 101), OUTSIDE);
        Due.due("move(0, 0, -101)", d.move(0, 0, -101), OUTSIDE);
        Due.due("what is refused changes nothing", d.at(0, 0), 19900);
        Due.due("tick(101)", d.tick(101), OUTSIDE);
        Due.due("tick(-1)", d.tick(-1), OUTSIDE);
        Due.due("tick(7)", d.tick(7), 100);
        Due.due("count(4)", d.count(4), 7);
        Due.due("at(1, 5)", d.at(1, 5), UNKNOWN);
        Due.due("at(0, 2)", d.at(0, 2), OUTSIDE);
        Due.due("at(0, -1)", d.at(0, -1), OUTSIDE);
    }

    private static DrawLabels square() {
        DrawLabels d = new DrawLabels();
        d.point(0, 0);
        d.point(10, 0);
        d.point(10, 10);
        d.point(0, 10);
        return d;
    }

    private static void object() {
        DrawLabels d = square();
        Due.due("a DOT's b, c are not looked at", d.object(0, 3, -5, 99), 0);
        Due.due("a PIECE's c is not looked at", d.object(1, 0, 1, 99), 1);
        Due.due("a LINE's", d.object(2, 0, 1, -1), 2);
        Due.due("a RAY's", d.object(3, 0, 1, 4), 3);
        Due.due("a CIRCLE's", d.object(4, 0, 1, 60), 4);
        Due.due("ANGLE", d.object(5, 1, 0, 3), 5);
        Due.due("TICKS 1", d.object(6, 0, 1, 1), 6);
        Due.due("TICKS 3", d.object(6, 0, 1, 3), 7);
        Due.due("one POINT twice", d.object(1, 2, 2, 0), 8);
        Due.due("count(1)", d.count(1), 9);
        for (int o = 9; o < 40; o++) {
            Due.due("object " + o, d.object(0, 0, 0, 0), o);
        }
        Due.due("object 40", d.object(0, 0, 0, 0), FULL);
        Due.due("unknown ahead of full", d.object(0, 4, 0, 0), UNKNOWN);
        Due.due("outside ahead of full", d.object(6, 0, 0, 0), OUTSIDE);
    }

    private static void objectRefusals() {
        DrawLabels d = square();
        for (int kind = 0; kind < 7; kind++) {
            Due.due("a unknown, KIND " + kind, d.object(kind, 4, 0, 1), UNKNOWN);
            Due.due("a below 0, KIND " + kind, d.object(kind, -1, 0, 1), UNKNOWN);
            if (kind > 0) {
                Due.due("b unknown, KIND " + kind, d.object(kind, 0, 4, 1), UNKNOWN);
            }
        }
        Due.due("c of an ANGLE", d.object(5, 0, 1, 4), UNKNOWN);
        Due.due("c of an ANGLE below 0", d.object(5, 0, 1, -1), UNKNOWN);
        Due.due("n 0", d.object(6, 0, 1, 0), OUTSIDE);
        Due.due("n 4", d.object(6, 0, 1, 4), OUTSIDE);
        Due.due("unknown b ahead of n", d.object(6, 0, 4, 4), UNKNOWN);
        Due.due("another KIND", d.object(7, 0, -1, -1), OUTSIDE);
        Due.due("another KIND below 0", d.object(-1, 0, -1, -1), OUTSIDE);
        Due.due("another KIND, a unknown", d.object(7, 4, 0, 0), UNKNOWN);
        Due.due("another KIND below 0, a unknown", d.object(-1, -1, 0, 0), UNKNOWN);
        Due.due("count(1)", d.count(1), 0);
    }

    private static void cornerAndArea() {
        DrawLabels d = square();
        Due.due("area of nothing", d.area(), NOT);
        Due.due("corner(4)", d.corner(4), UNKNOWN);
        Due.due("corner(-1)", d.corner(-1), UNKNOWN);
        Due.due("corner(0)", d.corner(0), 1);
        Due.due("corner(0) again", d.corner(0), 2);
        Due.due("area of two", d.area(), NOT);
        Due.due("corner(1)", d.corner(1), 3);
        Due.due("area of three", d.area(), 0);
        Due.due("the chain is empty then", d.corner(2), 1);
        for (int k = 2; k <= 12; k++) {
            Due.due("corner " + k, d.corner(k % 4), k);
        }
        Due.due("corner 13", d.corner(0), FULL);
        Due.due("unknown ahead of full", d.corner(4), UNKNOWN);
        Due.due("area of twelve", d.area(), 1);
        for (int o = 2; o < 40; o++) {
            d.object(0, 0, 0, 0);
        }
        Due.due("not ahead of full", d.area(), NOT);
        d.corner(0);
        d.corner(1);
        d.corner(2);
        Due.due("area 40", d.area(), FULL);
        Due.due("the chain stays then", d.corner(3), 4);
    }

    private static void styleAndHide() {
        DrawLabels d = square();
        d.object(0, 0, 0, 0);
        Due.due("style(0, 2)", d.style(0, 2), 0);
        Due.due("style(0, 1)", d.style(0, 1), 2);
        Due.due("style(0, 3)", d.style(0, 3), OUTSIDE);
        Due.due("style(0, -1)", d.style(0, -1), OUTSIDE);
        Due.due("style(1, 3)", d.style(1, 3), UNKNOWN);
        Due.due("style(-1, 0)", d.style(-1, 0), UNKNOWN);
        Due.due("style(0, 0)", d.style(0, 0), 1);
        Due.due("hide(9, true)", d.hide(9, true), 0);
        Due.due("hide(9, true) again", d.hide(9, true), 1);
        Due.due("hide(9, false)", d.hide(9, false), 1);
        Due.due("hide(9, false) again", d.hide(9, false), 0);
        Due.due("hide(10, true)", d.hide(10, true), OUTSIDE);
        Due.due("hide(-1, true)", d.hide(-1, true), OUTSIDE);
        d.draw();
        Due.due("a DOT at 0, 0", Due.text(d), "F 100 100\nD 0 100 0\n");
        d.hide(0, true);
        d.draw();
        Due.due("a hidden DOT", Due.text(d), "F 100 100\n");
    }

    private static void fallen() {
        DrawLabels d = new DrawLabels();
        d.point(0, 0);
        d.point(5, 0);
        d.move(1, -1, 0);
        d.point(9, 9);
        for (int kind = 0; kind < 7; kind++) {
            d.object(kind, 0, 1, kind == 6 ? 1 : 2);
        }
        d.object(5, 2, 0, 1);
        d.object(5, 0, 2, 1);
        for (int k = 0; k < 3; k++) {
            d.corner(k);
        }
        d.area();
        int[] then = {0, 1, 1, 1, 1, 1, 1, 1, 0, 1};
        for (int o = 0; o < 10; o++) {
            Due.due("before: fallen(" + o + ")", d.fallen(o), 0);
        }
        d.tick(5);
        for (int o = 0; o < 10; o++) {
            Due.due("at one place: fallen(" + o + ")", d.fallen(o), then[o]);
        }
        d.tick(6);
        for (int o = 0; o < 10; o++) {
            Due.due("behind: fallen(" + o + ")", d.fallen(o), 0);
        }
        Due.due("fallen(10)", d.fallen(10), UNKNOWN);
        Due.due("fallen(-1)", d.fallen(-1), UNKNOWN);
    }

    private static void measure() {
        DrawLabels d = square();
        for (int p : new int[] {0, 1, 2, 3}) {
            d.corner(p);
        }
        d.area();
        for (int p : new int[] {3, 2, 1, 0}) {
            d.corner(p);
        }
        d.area();
        for (int p : new int[] {0, 2, 1, 3}) {
            d.corner(p);
        }
        d.area();
        d.object(1, 0, 1, 0);
        Due.due("measure of a square", d.measure(0), 200);
        Due.due("the other way round", d.measure(1), -200);
        Due.due("of a bow", d.measure(2), 0);
        Due.due("a bow is fallen", d.fallen(2), 1);
        Due.due("of a PIECE", d.measure(3), 0);
        Due.due("measure(4)", d.measure(4), UNKNOWN);
        Due.due("measure(-1)", d.measure(-1), UNKNOWN);
        DrawLabels wide = new DrawLabels();
        int[][] far = {{-20000, -20000}, {20000, -20000}, {20000, 20000}, {-20000, 20000}};
        for (int p = 0; p < 4; p++) {
            wide.point(far[p][0], far[p][1]);
            wide.move(p, far[p][0] / 200, far[p][1] / 200);
            wide.corner(p);
        }
        wide.area();
        wide.tick(100);
        Due.due("the greatest square", wide.measure(0), 7200000000L);
    }
}
