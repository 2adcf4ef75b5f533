/** Promises 33 to 38: codes, groups, reach. */
public final class GroupsTest {
    private static final int UNKNOWN = DrawLabels.UNKNOWN, OUTSIDE = DrawLabels.OUTSIDE, NONE = DrawLabels.NONE;

    public static void main(String[] args) {
        group();
        put();
        member();
        paint();
        reach();
        codeStays();
        Due.end();
    }

    private static void coded(DrawLabels d, String call, long got, long want, int code) {
        Due.due(call, got, want);
        Due.due("code() behind " + call, d.code(), code);
    }

    /** Eight objects, one of each KIND, by KIND. */
    private static DrawLabels desk() {
        DrawLabels d = new DrawLabels();
        d.point(0, 0);
        d.point(3, 4);
        d.point(10, 0);
        for (int kind = 0; kind < 7; kind++) {
            d.object(kind, 0, 1, kind == 6 ? 1 : 2);
        }
        for (int p = 0; p < 3; p++) {
            d.corner(p);
        }
        d.area();
        return d;
    }

    private static void group() {
        DrawLabels d = desk();
        coded(d, "group(5, 8, 64)", d.group(5, 8, 64), 64, 0);
        coded(d, "group(0, 0, 0)", d.group(0, 0, 0), 0, 0);
        coded(d, "member(0, 0)", d.member(0, 0), 0, 3);
        coded(d, "paint(0, 0) of no places", d.paint(0, 0), 0, 0);
        coded(d, "group(1, 1, -1)", d.group(1, 1, -1), 0, 4);
        coded(d, "group(1, 1, MIN)", d.group(1, 1, Integer.MIN_VALUE), 0, 4);
        coded(d, "put(1, 0, 1): no GROUP", d.put(1, 0, 1), 0, 1);
        coded(d, "group(6, 0, -1)", d.group(6, 0, -1), OUTSIDE, 1);
        coded(d, "group(-1, 0, 0)", d.group(-1, 0, 0), OUTSIDE, 1);
        coded(d, "group(0, 9, -1)", d.group(0, 9, -1), OUTSIDE, 1);
        coded(d, "group(0, -1, 0)", d.group(0, -1, 0), OUTSIDE, 1);
        coded(d, "group(0, 0, 65)", d.group(0, 0, 65), OUTSIDE, 1);
        coded(d, "put(5, 63, 3)", d.put(5, 63, 3), 1, 0);
        coded(d, "CODE 4 leaves the one before", d.group(5, 0, -2), 0, 4);
        coded(d, "member(5, 63)", d.member(5, 63), 3, 0);
        coded(d, "in place of the one before", d.group(5, 8, 64), 64, 0);
        coded(d, "nothing is there", d.member(5, 63), 0, 1);
    }

    private static void put() {
        DrawLabels d = desk();
        coded(d, "no GROUP, no place, another KIND", d.put(0, -5, 3), 0, 1);
        for (int kind = 0; kind < 8; kind++) {
            d.group(0, kind, 2);
            for (int o = 0; o < 8; o++) {
                coded(d, "put of KIND " + o + " for " + kind, d.put(0, 1, o), o == kind ? 1 : 0, o == kind ? 0 : 2);
            }
            coded(d, "member", d.member(0, 1), kind, 0);
            coded(d, "CODE 3 ahead of 2", d.put(0, 2, (kind + 1) % 8), 0, 3);
            coded(d, "a place below 0", d.put(0, -1, kind), 0, 3);
            coded(d, "put nothing", d.put(0, 1, NONE), 1, 0);
            coded(d, "nothing is there", d.member(0, 1), 0, 1);
        }
        d.group(0, 8, 1);
        for (int o = 0; o < 8; o++) {
            coded(d, "all KINDS", d.put(0, 0, o), 1, 0);
            coded(d, "member", d.member(0, 0), o, 0);
        }
        coded(d, "put(9, 0, 8)", d.put(9, 0, 8), UNKNOWN, 0);
        coded(d, "put(0, 0, -2)", d.put(0, 0, -2), UNKNOWN, 0);
        coded(d, "put(6, 0, 0)", d.put(6, 0, 0), OUTSIDE, 0);
        coded(d, "put(-1, 0, -1)", d.put(-1, 0, -1), OUTSIDE, 0);
        coded(d, "nothing, and no place", d.put(0, 1, NONE), 0, 3);
    }

    private static void member() {
        DrawLabels d = desk();
        coded(d, "no GROUP", d.member(2, 0), 0, 1);
        d.group(2, 8, 3);
        coded(d, "member(2, 3)", d.member(2, 3), 0, 3);
        coded(d, "member(2, -1)", d.member(2, -1), 0, 3);
        coded(d, "member(2, 0)", d.member(2, 0), 0, 1);
        d.put(2, 0, 0);
        coded(d, "OBJECT 0", d.member(2, 0), 0, 0);
        d.put(2, 2, 7);
        coded(d, "OBJECT 7", d.member(2, 2), 7, 0);
        d.member(2, 1);
        coded(d, "member(6, 0)", d.member(6, 0), OUTSIDE, 1);
        coded(d, "member(-1, 0)", d.member(-1, 0), OUTSIDE, 1);
    }

    private static void paint() {
        DrawLabels d = desk();
        coded(d, "no GROUP", d.paint(3, 1), 0, 1);
        d.group(3, 8, 4);
        d.put(3, 0, 5);
        d.put(3, 1, 2);
        d.put(3, 3, 6);
        coded(d, "a place with nothing", d.paint(3, 2), 0, 1);
        Due.due("ahead of it", d.style(5, 0), 2);
        Due.due("ahead of it", d.style(2, 0), 2);
        Due.due("behind it", d.style(6, 0), 0);
        coded(d, "paint(6, 0)", d.paint(6, 0), OUTSIDE, 1);
        coded(d, "paint(-1, 0)", d.paint(-1, 0), OUTSIDE, 1);
        coded(d, "paint(3, 3)", d.paint(3, 3), OUTSIDE, 1);
        coded(d, "paint(3, -1)", d.paint(3, -1), OUTSIDE, 1);
        d.put(3, 2, 5);
        coded(d, "all of them, one twice", d.paint(3, 1), 4, 0);
        int[] due = {0, 0, 1, 0, 0, 1, 1, 0};
        for (int o = 0; o < 8; o++) {
            Due.due("style(" + o + ", 0)", d.style(o, 0), due[o]);
        }
    }

    private static void reach() {
        DrawLabels d = desk();
        coded(d, "reach of a CIRCLE", d.reach(4), 25, 0);
        for (int o = 0; o < 8; o++) {
            if (o != 4) {
                coded(d, "reach of KIND " + o, d.reach(o), 0, 2);
            }
        }
        coded(d, "reach(8)", d.reach(8), UNKNOWN, 2);
        coded(d, "reach(-1)", d.reach(-1), UNKNOWN, 2);
        d.move(1, 1, 0);
        d.tick(2);
        coded(d, "now", d.reach(4), 41, 0);
        DrawLabels far = new DrawLabels();
        far.point(-20000, -20000);
        far.point(20000, 20000);
        far.move(0, -100, -100);
        far.move(1, 100, 100);
        far.object(4, 0, 1, 0);
        far.tick(100);
        coded(far, "the farthest", far.reach(0), 7200000000L, 0);
    }

    /** Calls that name no CODES leave it as it was. */
    private static void codeStays() {
        DrawLabels d = desk();
        d.reach(0);
        d.point(1, 1);
        d.move(0, 1, 1);
        d.tick(0);
        d.at(0, 0);
        d.object(0, 0, 0, 0);
        d.corner(0);
        d.area();
        d.style(0, 0);
        d.hide(0, false);
        d.fallen(0);
        d.measure(0);
        d.window(0, 9, 0, 9);
        d.fit();
        d.side(0);
        d.sheet(90, 90, 0);
        d.grid(0);
        d.hatch(10);
        d.solid(0, 1);
        d.vertex(0, 0, 0, 0);
        d.face(0, 3, 0);
        d.view(0);
        d.edge(0, -1, 0);
        d.label(0, 1);
        d.mark(0, 0);
        d.placed(0);
        d.octet(0);
        d.digest();
        d.count(0);
        Due.due("code() stays", d.code(), 2);
        Due.due("code() again", d.code(), 2);
        d.scale(true);
        Due.due("code() behind scale", d.code(), 0);
        d.reach(0);
        d.single(0, 2);
        Due.due("code() behind single", d.code(), 0);
        d.reach(0);
        d.draw();
        Due.due("code() behind draw", d.code(), 0);
    }
}
