/** Promises 1 to 12, sentence by sentence: where each one's numbers end, what is refused there, and what is full. */
public final class BoundaryPointsTest {
    private static final int UNKNOWN = DrawLabels.UNKNOWN, OUTSIDE = DrawLabels.OUTSIDE, NOT = DrawLabels.NOT,
        FULL = DrawLabels.FULL, NONE = DrawLabels.NONE;
    private static final int LEAST = Integer.MIN_VALUE, MOST = Integer.MAX_VALUE;

    public static void main(String[] args) {
        newObjectHasNothing();
        newObjectIsAsAtFirst();
        newObjectHasNoDrawing();
        newObjectsAreApart();
        pointNumbers();
        pointsFull();
        pointAtFirstStands();
        moveNumbers();
        moveStartStays();
        tickNumbers();
        atAxis();
        atFarthest();
        objectKinds();
        objectPointsLookedAt();
        objectPointsNotLookedAt();
        objectStrokes();
        objectsFull();
        cornerPoints();
        chainFull();
        areaTooFew();
        areaOfThreeAndOfTwelve();
        areaFull();
        styleNumbers();
        hideKinds();
        hideThatKindAlone();
        fallenStraight();
        fallenAngle();
        fallenArea();
        measureOfOthers();
        measureSign();
        measureMayBeAsARefusal();
        measureGreatest();
        Due.end();
    }

    private static void newObjectHasNothing() {
        Due.about("1: No POINTS");
        DrawLabels d = new DrawLabels();
        for (int what = 0; what <= 3; what++) {
            Due.due("count(" + what + ")", d.count(what), 0);
        }
        Due.due("at(0, 0)", d.at(0, 0), UNKNOWN);
        Due.due("single(0, 2)", d.single(0, 2), (float) UNKNOWN);
        Due.due("move(0, 0, 0)", d.move(0, 0, 0), UNKNOWN);
        Due.due("corner(0)", d.corner(0), UNKNOWN);
        Due.due("object(0, 0, 0, 0)", d.object(0, 0, 0, 0), UNKNOWN);
        Due.due("fallen(0)", d.fallen(0), UNKNOWN);
        Due.due("edge(0, -1, 0)", d.edge(0, -1, 0), UNKNOWN);
        Due.due("placed(0)", d.placed(0), UNKNOWN);
    }

    private static void newObjectIsAsAtFirst() {
        Due.about("1: all as at first");
        DrawLabels d = new DrawLabels();
        Due.due("CODE", d.code(), 0);
        Due.due("count(4), THE TICK", d.count(4), 0);
        Due.due("count(5), THE VIEW", d.count(5), 0);
        int[] sides = {0, 100, 0, 100};
        for (int what = 0; what < 4; what++) {
            Due.due("side(" + what + ")", d.side(what), sides[what]);
        }
        Due.due("grid(1)", d.grid(1), 0);
        Due.due("hatch(11)", d.hatch(11), 10);
        for (int kind = 0; kind <= 9; kind++) {
            Due.due("hide(" + kind + ", false)", d.hide(kind, false), 0);
        }
        for (int g = 0; g <= 5; g++) {
            Due.due("member(" + g + ", 0)", d.member(g, 0), 0);
            Due.due("code(): no GROUP", d.code(), 1);
        }
        d.point(3, 4);
        Due.due("the first corner(0) of THE CHAIN", d.corner(0), 1);
        d.object(0, 0, 0, 0);
        Due.due("style(0, 1) of a new OBJECT", d.style(0, 1), 0);
        DrawLabels sheet = new DrawLabels();
        sheet.draw();
        Due.due("THE SHEET", Due.text(sheet), "F 100 100\n");
        Due.due("scale(true) without a MARGIN", sheet.scale(true), 1);
        Due.due("scale(false) without a MARGIN", sheet.scale(false), 1);
    }

    private static void newObjectHasNoDrawing() {
        Due.about("1: no DRAWING");
        DrawLabels d = Desks.points(5, 5);
        d.object(0, 0, 0, 0);
        d.label(0, 1);
        Due.due("mark(0, 0)", d.mark(0, 0), UNKNOWN);
        Due.due("octet(0)", d.octet(0), NONE);
        Due.due("digest()", d.digest(), 17);
        Due.due("placed(0)", d.placed(0), NONE);
        for (int what = 6; what <= 11; what++) {
            Due.due("count(" + what + ")", d.count(what), 0);
        }
    }

    private static void newObjectsAreApart() {
        Due.about("1: a new object has nothing of another one");
        DrawLabels d = Desks.eachKind();
        d.tick(5);
        d.group(0, 8, 1);
        d.draw();
        DrawLabels other = new DrawLabels();
        Due.due("count(0)", other.count(0), 0);
        Due.due("count(4)", other.count(4), 0);
        Due.due("count(6)", other.count(6), 0);
        Due.due("member(0, 0)", other.member(0, 0), 0);
        Due.due("code()", other.code(), 1);
        Due.due("code() of the first one", d.code(), 0);
    }

    private static void pointNumbers() {
        Due.about("2: x, y (-20000 .. 20000); OUTSIDE");
        int[] wrong = {-20001, 20001, LEAST, MOST};
        DrawLabels d = new DrawLabels();
        for (int n : wrong) {
            Due.due("point(" + n + ", 0)", d.point(n, 0), OUTSIDE);
            Due.due("point(0, " + n + ")", d.point(0, n), OUTSIDE);
        }
        Due.due("count(0)", d.count(0), 0);
        int[][] ends = {{-20000, 0}, {20000, 0}, {0, -20000}, {0, 20000}};
        for (int p = 0; p < 4; p++) {
            Due.due("point at an end", d.point(ends[p][0], ends[p][1]), p);
            Due.due("at(" + p + ", 0)", d.at(p, 0), ends[p][0]);
            Due.due("at(" + p + ", 1)", d.at(p, 1), ends[p][1]);
        }
    }

    private static void pointsFull() {
        Due.about("2: POINTS (60 at most), numbered from 0 on; FULL");
        DrawLabels d = new DrawLabels();
        for (int p = 0; p < 60; p++) {
            Due.due("point " + p, d.point(p, -p), p);
            d.point(20001, 0);
        }
        Due.due("the 61st", d.point(1, 1), FULL);
        Due.due("OUTSIDE is ahead of FULL", d.point(-20001, 0), OUTSIDE);
        Due.due("count(0)", d.count(0), 60);
        Due.due("at(59, 0)", d.at(59, 0), 59);
        Due.due("at(60, 0)", d.at(60, 0), UNKNOWN);
    }

    private static void pointAtFirstStands() {
        Due.about("2: it goes by u, v (0 at first) a TICK");
        DrawLabels d = new DrawLabels();
        d.tick(100);
        d.point(7, 8);
        Due.due("at(0, 0)", d.at(0, 0), 7);
        Due.due("at(0, 1)", d.at(0, 1), 8);
        d.move(0, 1, -1);
        Due.due("at THE TICK 100 it is at x + 100 u", d.at(0, 0), 107);
        Due.due("and at y + 100 v", d.at(0, 1), -92);
    }

    private static void moveNumbers() {
        Due.about("3: u, v (-100 .. 100); UNKNOWN, OUTSIDE");
        DrawLabels d = Desks.points(0, 0);
        d.tick(1);
        int[] wrong = {-101, 101, LEAST, MOST};
        for (int n : wrong) {
            Due.due("move(0, " + n + ", 0)", d.move(0, n, 0), OUTSIDE);
            Due.due("move(0, 0, " + n + ")", d.move(0, 0, n), OUTSIDE);
            Due.due("UNKNOWN is ahead of OUTSIDE", d.move(1, n, n), UNKNOWN);
        }
        Due.due("move(-1, 0, 0)", d.move(-1, 0, 0), UNKNOWN);
        Due.due("move(1, 0, 0)", d.move(1, 0, 0), UNKNOWN);
        int[] ends = {-100, 100};
        for (int n : ends) {
            Due.due("move(0, " + n + ", 0)", d.move(0, n, 0), 1);
            Due.due("at(0, 0)", d.at(0, 0), n);
            Due.due("move(0, 0, " + n + ")", d.move(0, 0, n), 1);
            Due.due("at(0, 1)", d.at(0, 1), n);
            Due.due("u is 0 again", d.at(0, 0), 0);
        }
    }

    private static void moveStartStays() {
        Due.about("3: (its x, y stay)");
        DrawLabels d = Desks.points(50, 60);
        d.move(0, 5, 6);
        d.tick(10);
        d.move(0, -1, 1);
        Due.due("at(0, 0) goes anew from x", d.at(0, 0), 40);
        Due.due("at(0, 1) goes anew from y", d.at(0, 1), 70);
        d.tick(0);
        Due.due("at(0, 0) at THE TICK 0", d.at(0, 0), 50);
        Due.due("at(0, 1) at THE TICK 0", d.at(0, 1), 60);
    }

    private static void tickNumbers() {
        Due.about("4: THE TICK t (0 .. 100; 0 at first): what it was. OUTSIDE");
        DrawLabels d = new DrawLabels();
        int[] wrong = {-1, 101, LEAST, MOST};
        Due.due("tick(100)", d.tick(100), 0);
        for (int n : wrong) {
            Due.due("tick(" + n + ")", d.tick(n), OUTSIDE);
            Due.due("it stays", d.count(4), 100);
        }
        Due.due("tick(0)", d.tick(0), 100);
        Due.due("tick(0) again", d.tick(0), 0);
    }

    private static void atAxis() {
        Due.about("5: axis 0 x, 1 y. UNKNOWN, OUTSIDE");
        DrawLabels d = Desks.points(3, 4);
        int[] wrong = {-1, 2, LEAST, MOST};
        for (int n : wrong) {
            Due.due("at(0, " + n + ")", d.at(0, n), OUTSIDE);
            Due.due("UNKNOWN is ahead of OUTSIDE", d.at(1, n), UNKNOWN);
        }
        Due.due("at(-1, 0)", d.at(-1, 0), UNKNOWN);
        Due.due("at(1, 1)", d.at(1, 1), UNKNOWN);
        Due.due("at(0, 0)", d.at(0, 0), 3);
        Due.due("at(0, 1)", d.at(0, 1), 4);
    }

    private static void atFarthest() {
        Due.about("5: Where a POINT is now");
        DrawLabels d = Desks.points(20000, -20000);
        d.move(0, 100, -100);
        d.tick(100);
        Due.due("the farthest x", d.at(0, 0), 30000);
        Due.due("the farthest y", d.at(0, 1), -30000);
        d.tick(99);
        Due.due("a TICK before", d.at(0, 0), 29900);
    }

    private static void objectKinds() {
        Due.about("6: An OBJECT of KIND 0 .. 6; OUTSIDE (KIND)");
        DrawLabels d = Desks.points(0, 0, 5, 5, 9, 0);
        int[] wrong = {-1, 7, 8, 9, LEAST, MOST};
        for (int n : wrong) {
            Due.due("object(" + n + ", 0, 1, 2)", d.object(n, 0, 1, 2), OUTSIDE);
            Due.due("of another KIND a alone is looked at: b, c", d.object(n, 0, 3, -1), OUTSIDE);
            Due.due("of another KIND a alone is looked at: a", d.object(n, 3, 1, 2), UNKNOWN);
            Due.due("of another KIND a alone is looked at: a below 0", d.object(n, -1, 1, 2), UNKNOWN);
        }
        Due.due("count(1)", d.count(1), 0);
        for (int kind = 0; kind <= 6; kind++) {
            Due.due("object(" + kind + ", 0, 1, 2)", d.object(kind, 0, 1, 2), kind);
        }
    }

    private static void objectPointsLookedAt() {
        Due.about("6: UNKNOWN (a POINT that the KIND has)");
        DrawLabels d = Desks.points(0, 0, 5, 5);
        int[] wrong = {-1, 2, LEAST, MOST};
        for (int n : wrong) {
            for (int kind = 0; kind <= 6; kind++) {
                Due.due("a = " + n + " of KIND " + kind, d.object(kind, n, 1, 1), UNKNOWN);
            }
            for (int kind = 1; kind <= 6; kind++) {
                Due.due("b = " + n + " of KIND " + kind, d.object(kind, 0, n, 1), UNKNOWN);
            }
            Due.due("c = " + n + " of an ANGLE", d.object(5, 0, 1, n), UNKNOWN);
            Due.due("UNKNOWN a is ahead of n", d.object(6, n, 1, 4), UNKNOWN);
            Due.due("UNKNOWN b is ahead of n", d.object(6, 0, n, 0), UNKNOWN);
        }
        Due.due("count(1)", d.count(1), 0);
    }

    private static void objectPointsNotLookedAt() {
        Due.about("6: (b of a DOT, c of others than ANGLE, TICKS are not looked at)");
        DrawLabels d = Desks.points(0, 0, 5, 5);
        Due.due("b, c of a DOT", d.object(0, 1, LEAST, MOST), 0);
        for (int kind = 1; kind <= 4; kind++) {
            Due.due("c of KIND " + kind, d.object(kind, 0, 1, kind % 2 == 0 ? MOST : -1), kind);
        }
        Due.due("c of TICKS is no POINT", d.object(6, 0, 1, 3), 5);
        Due.about("Terms 2: POINTS (perhaps the same one twice)");
        for (int kind = 1; kind <= 6; kind++) {
            Due.due("one POINT for all of KIND " + kind, d.object(kind, 1, 1, 1), 5 + kind);
        }
    }

    private static void objectStrokes() {
        Due.about("6: TICKS a b n: n (1 .. 3); OUTSIDE (n)");
        DrawLabels d = Desks.points(0, 0, 5, 5, 6, 6, 7, 7, 8, 8);
        int[] wrong = {0, 4, -1, LEAST, MOST};
        for (int n : wrong) {
            Due.due("object(6, 0, 1, " + n + ")", d.object(6, 0, 1, n), OUTSIDE);
        }
        for (int n = 1; n <= 3; n++) {
            Due.due("object(6, 0, 1, " + n + ")", d.object(6, 0, 1, n), n - 1);
        }
    }

    private static void objectsFull() {
        Due.about("6: OBJECTS (40 at most), numbered from 0 on; FULL");
        DrawLabels d = Desks.points(0, 0, 5, 5, 9, 0);
        Desks.area(d, 0, 1, 2);
        for (int o = 1; o < 40; o++) {
            Due.due("object " + o, d.object(o % 7, 0, 1, 2), o);
            d.object(7, 0, 1, 2);
        }
        for (int kind = 0; kind <= 6; kind++) {
            Due.due("the 41st, of KIND " + kind, d.object(kind, 0, 1, 2), FULL);
            Due.due("UNKNOWN is ahead of FULL", d.object(kind, 3, 1, 2), UNKNOWN);
        }
        Due.due("OUTSIDE (KIND) is ahead of FULL", d.object(7, 0, 0, 0), OUTSIDE);
        Due.due("OUTSIDE (n) is ahead of FULL", d.object(6, 0, 1, 4), OUTSIDE);
        Due.due("count(1)", d.count(1), 40);
        Due.due("fallen(39)", d.fallen(39), 0);
        Due.due("fallen(40)", d.fallen(40), UNKNOWN);
    }

    private static void cornerPoints() {
        Due.about("7: A POINT more in THE CHAIN (empty at first): how many it has. UNKNOWN");
        DrawLabels d = Desks.points(0, 0, 5, 5);
        int[] wrong = {-1, 2, LEAST, MOST};
        Due.due("corner(0)", d.corner(0), 1);
        for (int n : wrong) {
            Due.due("corner(" + n + ")", d.corner(n), UNKNOWN);
        }
        Due.due("corner(1)", d.corner(1), 2);
        Due.due("the same one again", d.corner(1), 3);
    }

    private static void chainFull() {
        Due.about("7: FULL (12)");
        DrawLabels d = Desks.points(0, 0, 5, 0, 5, 5);
        for (int k = 1; k <= 12; k++) {
            Due.due("corner " + k, d.corner(k % 3), k);
        }
        Due.due("the 13th", d.corner(0), FULL);
        Due.due("UNKNOWN is ahead of FULL", d.corner(3), UNKNOWN);
        Due.due("its twelve are an AREA", d.area(), 0);
        // four times round the triangle of MEASURE 25; the 13th is not in it
        Due.due("measure(0)", d.measure(0), 100);
    }

    private static void areaTooFew() {
        Due.about("8: NOT (fewer than 3)");
        DrawLabels d = Desks.points(0, 0, 5, 0, 5, 5);
        for (int k = 0; k < 3; k++) {
            Due.due("area() of " + k, d.area(), NOT);
            Due.due("THE CHAIN stays then", d.corner(k), k + 1);
        }
        Due.due("area() of 3", d.area(), 0);
    }

    private static void areaOfThreeAndOfTwelve() {
        Due.about("8: An AREA of the POINTS of THE CHAIN (which is empty then)");
        DrawLabels d = Desks.points(0, 0, 5, 0, 5, 5);
        Due.due("of three", Desks.area(d, 0, 1, 2), 0);
        Due.due("area() again", d.area(), NOT);
        Due.due("corner(0)", d.corner(0), 1);
        for (int k = 1; k < 12; k++) {
            d.corner(0);
        }
        Due.due("of twelve", d.area(), 1);
        Due.due("it is empty again", d.corner(0), 1);
        d.corner(2);
        d.corner(1);
        Due.due("of three again", d.area(), 2);
        Due.due("with nothing of those before", d.measure(2), -25);
    }

    private static void areaFull() {
        Due.about("8: FULL");
        DrawLabels d = Desks.points(0, 0, 5, 0, 5, 5);
        for (int o = 0; o < 39; o++) {
            d.object(0, 0, 0, 0);
        }
        Due.due("the 40th OBJECT", Desks.area(d, 0, 1, 2), 39);
        Due.due("NOT is ahead of FULL", Desks.area(d, 0, 1), NOT);
        Due.due("the 41st", Desks.area(d, 2), FULL);
        Due.due("THE CHAIN stays then", d.corner(0), 4);
        Due.due("count(1)", d.count(1), 40);
    }

    private static void styleNumbers() {
        Due.about("9: a STYLE (0 .. 2; 0 at first): what it was. UNKNOWN, OUTSIDE");
        DrawLabels d = Desks.points(0, 0);
        d.object(0, 0, 0, 0);
        d.object(0, 0, 0, 0);
        int[] wrong = {-1, 3, LEAST, MOST};
        Due.due("style(0, 2)", d.style(0, 2), 0);
        for (int n : wrong) {
            Due.due("style(0, " + n + ")", d.style(0, n), OUTSIDE);
            Due.due("UNKNOWN is ahead of OUTSIDE", d.style(2, n), UNKNOWN);
        }
        Due.due("style(-1, 0)", d.style(-1, 0), UNKNOWN);
        Due.due("style(2, 0)", d.style(2, 0), UNKNOWN);
        Due.due("it stays", d.style(0, 0), 2);
        Due.due("style(0, 1)", d.style(0, 1), 0);
        Due.due("style(1, 0): each has its own", d.style(1, 0), 0);
        Due.due("style(0, 1)", d.style(0, 1), 1);
    }

    private static void hideKinds() {
        Due.about("10: A KIND (0 .. 9): 1 if it was, 0. OUTSIDE");
        DrawLabels d = new DrawLabels();
        int[] wrong = {-1, 10, LEAST, MOST};
        for (int n : wrong) {
            Due.due("hide(" + n + ", true)", d.hide(n, true), OUTSIDE);
            Due.due("hide(" + n + ", false)", d.hide(n, false), OUTSIDE);
        }
        for (int kind = 0; kind <= 9; kind++) {
            Due.due("hide(" + kind + ", true)", d.hide(kind, true), 0);
            Due.due("hide(" + kind + ", true) again", d.hide(kind, true), 1);
        }
        for (int kind = 0; kind <= 9; kind++) {
            Due.due("hide(" + kind + ", false)", d.hide(kind, false), 1);
            Due.due("hide(" + kind + ", false) again", d.hide(kind, false), 0);
        }
    }

    private static void hideThatKindAlone() {
        Due.about("10: A KIND is HIDDEN from now on, or not");
        DrawLabels d = Desks.eachKind();
        d.hatch(10);
        String[] lines = {"D 10 90 0\n", "S 10 90 13 86 0\n", "S 3 100 78 0 0\n", "S 10 90 78 0 0\n",
            "C 10 90 5 0 0\n", "A 13 86 5 7 2\n", "T 12 88 1 1\n"};
        for (int hidden = 0; hidden < 7; hidden++) {
            StringBuilder due = new StringBuilder("S 10 90 20 90 0\n");
            for (int kind = 0; kind < 7; kind++) {
                due.append(kind == hidden ? "" : lines[kind]);
            }
            d.hide(hidden, true);
            Due.due("without KIND " + hidden, Desks.drawn(d), due.toString());
            d.hide(hidden, false);
        }
        d.hide(7, true);
        Due.due("without AREAS", Desks.drawn(d), String.join("", lines));
        d.hide(7, false);
        Due.due("with all", Desks.drawn(d), "S 10 90 20 90 0\n" + String.join("", lines));
    }

    private static void fallenStraight() {
        Due.about("11: FALLEN: one of KIND 1, 2, 3, 4, 6 with a and b at one place");
        // POINT 1 has x, POINT 2 has y of POINT 0; POINT 3 is another one at its place
        DrawLabels d = Desks.points(5, 6, 5, 7, 4, 6, 5, 6);
        int[] kinds = {1, 2, 3, 4, 6};
        int o = 0;
        for (int kind : kinds) {
            for (int b = 0; b < 4; b++) {
                d.object(kind, 0, b, 1);
                Due.due("KIND " + kind + " with b = " + b, d.fallen(o), b == 0 || b == 3 ? 1 : 0);
                o++;
            }
        }
        d.object(0, 0, 0, 0);
        Due.due("a DOT never", d.fallen(o), 0);
        Due.due("UNKNOWN", d.fallen(o + 1), UNKNOWN);
        Due.due("UNKNOWN below 0", d.fallen(-1), UNKNOWN);
        Due.about("11: FALLEN is, by where POINTS are now");
        d.move(3, 1, 0);
        d.tick(1);
        Due.due("apart", d.fallen(3), 0);
        d.tick(0);
        Due.due("together again", d.fallen(3), 1);
    }

    private static void fallenAngle() {
        Due.about("11: an ANGLE with a, or c, at b's place");
        DrawLabels d = Desks.points(5, 6, 9, 9, 5, 6);
        int[][] abc = {{0, 0, 1}, {2, 0, 1}, {1, 0, 0}, {1, 0, 2}, {0, 1, 0}, {0, 1, 2}, {0, 0, 0}};
        int[] due = {1, 1, 1, 1, 0, 0, 1};
        for (int o = 0; o < abc.length; o++) {
            d.object(5, abc[o][0], abc[o][1], abc[o][2]);
            Due.due("ANGLE " + o, d.fallen(o), due[o]);
        }
    }

    private static void fallenArea() {
        Due.about("11: an AREA whose MEASURE is 0");
        DrawLabels d = Desks.points(0, 0, 10, 0, 20, 0, 10, 10, 0, 10, 0, 1);
        Desks.area(d, 0, 1, 2);
        Desks.area(d, 0, 3, 1, 4);
        Desks.area(d, 0, 1, 5);
        Desks.area(d, 5, 1, 0);
        Desks.area(d, 3, 3, 3);
        int[] due = {1, 1, 0, 0, 1};
        for (int o = 0; o < due.length; o++) {
            Due.due("AREA " + o, d.fallen(o), due[o]);
        }
    }

    private static void measureOfOthers() {
        Due.about("12: MEASURE of an AREA now; 0 of others. UNKNOWN");
        DrawLabels d = Desks.eachKind();
        for (int o = 0; o < 7; o++) {
            Due.due("measure(" + o + ")", d.measure(o), 0);
        }
        // 10, 10; 13, 14; 20, 10: clockwise
        Due.due("measure(7)", d.measure(7), -40);
        Due.due("measure(8)", d.measure(8), UNKNOWN);
        Due.due("measure(-1)", d.measure(-1), UNKNOWN);
        d.move(1, 0, -1);
        d.tick(8);
        Due.due("now it goes the other way round", d.measure(7), 40);
    }

    private static void measureSign() {
        Due.about("12: (its sign tells the way round)");
        DrawLabels d = Desks.points(0, 0, 1, 0, 0, 1);
        Desks.area(d, 0, 1, 2);
        Desks.area(d, 0, 2, 1);
        Due.due("measure(0)", d.measure(0), 1);
        Due.due("measure(1)", d.measure(1), -1);
        Due.about("12: from the last one to the first");
        // 3, 4 to 9, 9 is -9; 9, 9 to 5, 5 is 0; 5, 5 back to 3, 4 is 5
        DrawLabels far = Desks.points(3, 4, 9, 9, 5, 5);
        Desks.area(far, 0, 1, 2);
        Due.due("measure(0)", far.measure(0), -4);
    }

    private static void measureMayBeAsARefusal() {
        Due.about("12: (What is told may be as a refusal is.)");
        DrawLabels d = Desks.points(0, 0, 1000, 1, 1, -100);
        Desks.area(d, 0, 1, 2);
        Due.due("measure(0)", d.measure(0), -100001);
        Due.due("it has not FALLEN", d.fallen(0), 0);
    }

    private static void measureGreatest() {
        Due.about("12: the sum of xp yq - xq yp over its sides");
        DrawLabels d = Desks.points(-20000, -20000, 20000, -20000, 20000, 20000, -20000, 20000);
        int[] ways = {-100, -100, 100, -100, 100, 100, -100, 100};
        for (int p = 0; p < 4; p++) {
            d.move(p, ways[2 * p], ways[2 * p + 1]);
        }
        d.tick(100);
        Desks.area(d, 0, 1, 2, 3, 0, 1, 2, 3, 0, 1, 2, 3);
        Desks.area(d, 3, 2, 1, 0, 3, 2, 1, 0, 3, 2, 1, 0);
        Due.due("three times round the greatest square", d.measure(0), 21600000000L);
        Due.due("and back", d.measure(1), -21600000000L);
    }
}
