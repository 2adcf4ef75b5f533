/** Promises 27 and 10, and the terms of A DRAWING, sentence by sentence: what THE WINDOW just HAS, or just has not. */
public final class BoundaryDrawingTest {
    public static void main(String[] args) {
        roundedHalfUp();
        roundedOnce();
        sheetOfThePage();
        gridNone();
        gridAtTheSides();
        gridRising();
        areaAtBottomAndTop();
        areaMeetsAtItsEnds();
        areaBelowZero();
        areaWithoutALine();
        areaByFractions();
        areaOfTwelve();
        areaAtLeftAndRight();
        areaFallen();
        dotAtTheSides();
        pieceAtTheSides();
        pieceAtACorner();
        lineBeyondItsPoints();
        rayFromItsStart();
        circleAllOfIt();
        circleFromOutside();
        circleAroundTheWindow();
        radiusRounded();
        angleAtTheSides();
        angleOpening();
        angleOfShortWays();
        angleFar();
        octants();
        ticksAtTheSides();
        othersByNumber();
        Due.end();
    }

    /** What a desk with THE WINDOW 0 .. 100 draws of one OBJECT with POINTS x, y, x, y ..; elsewhere it is the same. */
    private static String one(int kind, int... xy) {
        String here = shifted(0, 0, kind, xy);
        Due.due("far right and below", shifted(1000, -3000, kind, xy), here);
        Due.due("far left and above", shifted(-7001, 501, kind, xy), here);
        return here;
    }

    private static String shifted(int right, int up, int kind, int... xy) {
        int[] at = xy.clone();
        for (int k = 0; k + 1 < at.length; k += 2) {
            at[k] += right;
            at[k + 1] += up;
        }
        DrawLabels d = Desks.points(at);
        d.window(right, right + 100, up, up + 100);
        d.object(kind, 0, 1, kind == 6 ? 1 : 2);
        return Desks.drawn(d);
    }

    private static void roundedHalfUp() {
        Due.about("What it is: ROUNDED to the nearest whole number, a half up");
        DrawLabels d = new DrawLabels();
        d.window(0, 200, 0, 200);
        Desks.dots(d, 1, 1, 2, 2, 3, 3, 199, 199);
        Due.due("X 0.5, 1, 1.5, 99.5; Y 99.5, 99, 98.5, 0.5", Desks.drawn(d), "D 1 100 0\nD 1 99 0\nD 2 99 0\nD 100 1 0\n");
        d.window(0, 300, 0, 300);
        Due.due("X 0.33, 0.67, 1, 66.33; Y 99.67, 99.33, 99, 33.67", Desks.drawn(d), "D 0 100 0\nD 1 99 0\nD 1 99 0\nD 66 34 0\n");
        DrawLabels below = Desks.points(-3, 203, 0, 199, -1, 201);
        below.window(0, 200, 0, 200);
        below.object(4, 0, 1, 0);
        below.object(4, 2, 1, 0);
        // X -1.5 and -0.5, Y the same; the radii 2.5 and 1.118
        Due.due("below 0", Desks.drawn(below), "C -1 -1 3 1 0\nC 0 0 1 1 0\n");
    }

    private static void roundedOnce() {
        Due.about("Terms 3: (whole or a fraction) .. all as fractions, each ROUNDED once");
        DrawLabels d = Desks.points(-1, 0, 7, 1);
        d.window(0, 1, 0, 1);
        d.object(1, 0, 1, 0);
        Due.due("Y of 1 / 8 is 87.5, of 2 / 8 it is 75", Desks.drawn(d), "S 0 88 100 75 0\n");
        DrawLabels middle = new DrawLabels();
        middle.sheet(17, 19, 0);
        middle.window(0, 1, 0, 1);
        Desks.dots(middle, 0, 0, 1, 1);
        // W / 2 = 8.5, H / 2 = 9.5; 17 / 1 is the lesser
        Due.due("W / 2 and (LEFT + RIGHT) / 2 are fractions", Desks.drawn(middle), "D 0 18 0\nD 17 1 0\n");
        middle.window(0, 3, 0, 3);
        // X 0, 17 / 3; Y 1 + 17, 18 - 17 / 3
        Due.due("thirds", Desks.drawn(middle), "D 0 18 0\nD 6 12 0\n");
    }

    private static void sheetOfThePage() {
        Due.about("27: F W H, always");
        DrawLabels d = new DrawLabels();
        Due.due("draw()", d.draw(), 1);
        Due.due("alone", Due.text(d), "F 100 100\n");
        d.sheet(16, 400, 7);
        d.window(3, 3, 3, 3);
        d.draw();
        Due.due("without a SCALE", Due.text(d), "F 16 400\n");
    }

    private static void gridNone() {
        Due.about("Terms 4: THE GRID of a step g above 0 (0 at first)");
        DrawLabels d = new DrawLabels();
        Due.due("at first", Desks.drawn(d), "");
        d.grid(1);
        Due.due("of step 1: 101 and 101", d.draw(), 203);
        d.grid(0);
        Due.due("of step 0", Desks.drawn(d), "");
        d.grid(10);
        d.window(1, 9, 1, 9);
        Due.due("no multiple within", Desks.drawn(d), "");
    }

    private static void gridAtTheSides() {
        Due.about("Terms 4: each multiple of g that is not outside of LEFT .. RIGHT (0 is one, too)");
        DrawLabels d = new DrawLabels();
        d.grid(10);
        d.window(-10, 10, -10, 10);
        Due.due("on all sides", Desks.drawn(d), "S 0 100 0 0 1\nS 50 100 50 0 1\nS 100 100 100 0 1\n"
            + "S 0 100 100 100 1\nS 0 50 100 50 1\nS 0 0 100 0 1\n");
        d.window(-9, 9, -9, 9);
        Due.due("0 alone", Desks.drawn(d), "S 50 100 50 0 1\nS 0 50 100 50 1\n");
        d.window(-9, 10, -10, 9);
        // 100 / 19: X of 0 is 47.37, of 10 it is 100; Y of 0 is 47.37
        Due.due("RIGHT and BOTTOM", Desks.drawn(d), "S 47 100 47 0 1\nS 100 100 100 0 1\nS 0 100 100 100 1\nS 0 47 100 47 1\n");
        d.window(1, 9, 0, 9);
        // 100 / 9: X of LEFT is 5.56, of RIGHT 94.44
        Due.due("BOTTOM alone", Desks.drawn(d), "S 6 100 94 100 1\n");
        d.window(-19, -11, -19, -10);
        Due.due("TOP alone, below 0", Desks.drawn(d), "S 6 0 94 0 1\n");
        d.grid(40000);
        d.window(-40000, 40000, -1, 1);
        Due.due("the greatest step", Desks.drawn(d), "S 0 50 0 50 1\nS 50 50 50 50 1\nS 100 50 100 50 1\nS 0 50 100 50 1\n");
    }

    private static void gridRising() {
        Due.about("Terms 4: rising, from x, BOTTOM to x, TOP; then for each y likewise from LEFT, y to RIGHT, y");
        DrawLabels d = new DrawLabels();
        d.sheet(40, 60, 0);
        d.window(-20, 20, -30, 30);
        d.grid(15);
        Due.due("the grid", Desks.drawn(d), "S 5 60 5 0 1\nS 20 60 20 0 1\nS 35 60 35 0 1\n"
            + "S 0 60 40 60 1\nS 0 45 40 45 1\nS 0 30 40 30 1\nS 0 15 40 15 1\nS 0 0 40 0 1\n");
    }

    private static void areaAtBottomAndTop() {
        Due.about("Terms 4: An AREA: each multiple y of THE HATCH that is not outside of BOTTOM .. TOP, rising");
        DrawLabels d = new DrawLabels();
        Desks.areaAt(d, 0, 0, 30, 0, 30, 30, 0, 30);
        d.style(0, 2);
        Due.due("all", Desks.drawn(d), "S 0 100 30 100 2\nS 0 90 30 90 2\nS 0 80 30 80 2\n");
        d.window(0, 20, 10, 20);
        Due.due("BOTTOM and TOP are multiples", Desks.drawn(d), "S 0 75 100 75 2\nS 0 25 100 25 2\n");
        d.window(0, 20, 11, 20);
        Due.due("TOP alone", Desks.drawn(d, 'S'), "S 0 28 100 28 2\n");
        d.window(0, 20, 10, 19);
        Due.due("BOTTOM alone", Desks.drawn(d), "S 0 73 100 73 2\n");
        d.window(0, 20, 11, 19);
        Due.due("neither", Desks.drawn(d), "");
        d.window(0, 100, 0, 100);
        d.hatch(29);
        Due.due("multiples of 29", Desks.drawn(d), "S 0 100 30 100 2\nS 0 71 30 71 2\n");
        d.hatch(30);
        Due.due("multiples of 30", Desks.drawn(d), "S 0 100 30 100 2\n");
    }

    private static void areaMeetsAtItsEnds() {
        Due.about("Terms 4: its sides meet y, if one end's y is not above y, and the other end's is above it");
        DrawLabels down = new DrawLabels();
        Desks.areaAt(down, 50, 10, 30, 40, 70, 40);
        Due.due("a tip below: one place; nothing at its upper side", Desks.drawn(down),
            "S 50 90 50 90 0\nS 43 80 57 80 0\nS 37 70 63 70 0\n");
        DrawLabels up = new DrawLabels();
        Desks.areaAt(up, 30, 10, 70, 10, 50, 40);
        Due.due("its lower side; nothing at the tip", Desks.drawn(up), "S 30 90 70 90 0\nS 37 80 63 80 0\nS 43 70 57 70 0\n");
        DrawLabels both = new DrawLabels();
        Desks.areaAt(both, 50, 10, 70, 20, 50, 30, 30, 20);
        Due.due("corners at both sides meet once each", Desks.drawn(both), "S 50 90 50 90 0\nS 30 80 70 80 0\n");
    }

    private static void areaBelowZero() {
        Due.about("Terms 4: multiples below 0, and 0");
        DrawLabels d = new DrawLabels();
        d.window(-50, 50, -50, 50);
        Desks.areaAt(d, -10, -20, 10, -20, 10, 20, -10, 20);
        Due.due("-20 .. 10", Desks.drawn(d), "S 40 70 60 70 0\nS 40 60 60 60 0\nS 40 50 60 50 0\nS 40 40 60 40 0\n");
        d.hatch(1000);
        Due.due("0 alone", Desks.drawn(d), "S 40 50 60 50 0\n");
    }

    private static void areaWithoutALine() {
        Due.about("Terms 4: no multiple of THE HATCH between its lowest and its highest POINT");
        DrawLabels d = new DrawLabels();
        Desks.areaAt(d, 10, 11, 90, 11, 50, 19);
        Due.due("11 .. 19", Desks.drawn(d), "");
        DrawLabels low = new DrawLabels();
        Desks.areaAt(low, 10, 11, 90, 11, 50, 20);
        Due.due("11 .. 20: no end is above 20", Desks.drawn(low), "");
        DrawLabels next = new DrawLabels();
        Desks.areaAt(next, 10, 11, 90, 11, 50, 21);
        // at 20 the sides are at 46 and 54
        Due.due("11 .. 21", Desks.drawn(next), "S 46 80 54 80 0\n");
    }

    private static void areaByFractions() {
        Due.about("Terms 4: the places where they do, by x (as fractions, rising), two and two");
        DrawLabels d = new DrawLabels();
        d.sheet(400, 400, 0);
        d.window(0, 4, 0, 4);
        Desks.areaAt(d, 3, -1, 4, 2, 3, -2, 1, 1, 2, -1);
        // by sides 3 1/3, 3 1/2, 1 2/3, 1 1/2
        Due.due("two strokes", Desks.drawn(d), "S 150 400 167 400 0\nS 333 400 350 400 0\n");
    }

    private static void areaOfTwelve() {
        Due.about("Terms 4: AREA of 3 to 12 POINTS: as many STROKES on a line as can be");
        DrawLabels d = new DrawLabels();
        Desks.areaAt(d, 0, 5, 10, 15, 20, 5, 30, 15, 40, 5, 50, 15, 60, 5, 70, 15, 80, 5, 90, 15, 100, 5, 50, 12);
        // the ten sides up and down meet y = 10 at 5, 15, .. 95; the last two rise to 50, 12 from 100, 5 and from 0, 5
        Due.due("six", Desks.drawn(d), "S 5 90 15 90 0\nS 25 90 35 90 0\nS 36 90 45 90 0\nS 55 90 64 90 0\nS 65 90 75 90 0\nS 85 90 95 90 0\n");
        DrawLabels flat = new DrawLabels();
        Desks.areaAt(flat, 10, 10, 30, 10, 20, 11);
        Due.due("sides that rise and fall by 1", Desks.drawn(flat), "S 10 90 30 90 0\n");
        DrawLabels turned = new DrawLabels();
        Desks.areaAt(turned, 20, 11, 30, 10, 10, 10);
        Due.due("the other way round", Desks.drawn(turned), "S 10 90 30 90 0\n");
    }

    private static void areaAtLeftAndRight() {
        Due.about("Terms 4: what lies between both and is not outside of LEFT .. RIGHT, if anything does (be it one place)");
        int[][] spans = {{-20, 0}, {-20, -1}, {100, 120}, {101, 120}, {-10, 110}, {0, 100}, {-1, 1}, {99, 101}};
        String[] due = {"S 0 100 0 100 0\n", "", "S 100 100 100 100 0\n", "", "S 0 100 100 100 0\n", "S 0 100 100 100 0\n",
            "S 0 100 1 100 0\n", "S 99 100 100 100 0\n"};
        for (int k = 0; k < spans.length; k++) {
            for (int right = -301; right <= 301; right += 301) {
                DrawLabels d = new DrawLabels();
                d.window(right, right + 100, 0, 100);
                int from = spans[k][0] + right;
                int to = spans[k][1] + right;
                Desks.areaAt(d, from, 0, to, 0, to, 10, from, 10);
                Due.due(from + " .. " + to, Desks.drawn(d), due[k]);
            }
        }
        DrawLabels half = new DrawLabels();
        Desks.areaAt(half, -10, -10, -1, -10, 0, 10, -10, 10);
        Due.due("up to -1 / 2", Desks.drawn(half), "");
        DrawLabels in = new DrawLabels();
        Desks.areaAt(in, -10, -10, 0, -10, 1, 10, -10, 10);
        Due.due("up to 1 / 2", Desks.drawn(in), "S 0 100 1 100 0\n");
        DrawLabels right = new DrawLabels();
        Desks.areaAt(right, 100, -10, 110, -10, 110, 10, 101, 10);
        Due.due("from 100 1/2 on", Desks.drawn(right), "");
        DrawLabels rightIn = new DrawLabels();
        Desks.areaAt(rightIn, 99, -10, 110, -10, 110, 10, 100, 10);
        Due.due("from 99 1/2 on", Desks.drawn(rightIn), "S 100 100 100 100 0\n");
    }

    private static void areaFallen() {
        Due.about("Terms 4: not those that are FALLEN, or of a HIDDEN KIND");
        DrawLabels d = Desks.points(0, 0, 40, 0, 0, 40, 40, 40);
        Desks.area(d, 0, 3, 1, 2);
        Due.due("a bow has FALLEN", Desks.drawn(d), "");
        d.object(1, 1, 1, 0);
        d.object(4, 1, 1, 0);
        d.object(5, 1, 1, 2);
        d.object(6, 1, 1, 1);
        d.object(2, 1, 1, 0);
        d.object(3, 1, 1, 0);
        Due.due("so have they", Desks.drawn(d), "");
        d.object(0, 1, 1, 0);
        Due.due("a DOT has not", Desks.drawn(d), "D 40 100 0\n");
        d.hide(0, true);
        Due.due("but it may be HIDDEN", Desks.drawn(d), "");
    }

    private static void dotAtTheSides() {
        Due.about("Terms 4: D X Y s: a DOT that THE WINDOW HAS");
        int[][] has = {{0, 0}, {100, 0}, {0, 100}, {100, 100}, {0, 50}, {100, 50}, {50, 0}, {50, 100}};
        for (int[] p : has) {
            Due.due("at " + p[0] + ", " + p[1], one(0, p), "D " + p[0] + " " + (100 - p[1]) + " 0\n");
        }
        int[][] hasNot = {{-1, 0}, {-1, 50}, {101, 50}, {101, 100}, {50, -1}, {0, -1}, {50, 101}, {100, 101}};
        for (int[] p : hasNot) {
            Due.due("at " + p[0] + ", " + p[1], one(0, p), "");
        }
    }

    private static void pieceAtTheSides() {
        Due.about("Terms 4: A PIECE: what of it THE WINDOW HAS, if anything (be it one place)");
        int[][] pieces = {{-5, 50, 0, 50}, {-5, 50, -1, 50}, {100, 50, 105, 50}, {101, 50, 105, 50}, {50, -5, 50, 0}, {50, -5, 50, -1},
            {50, 100, 50, 105}, {50, 101, 50, 105}, {0, -5, 0, 105}, {-1, -5, -1, 105}, {100, -5, 100, 105}, {101, -5, 101, 105},
            {-5, 0, 105, 0}, {-5, -1, 105, -1}, {-5, 100, 105, 100}, {-5, 101, 105, 101}, {0, 0, 100, 100}, {105, 30, -5, 30}};
        String[] due = {"S 0 50 0 50 0\n", "", "S 100 50 100 50 0\n", "", "S 50 100 50 100 0\n", "",
            "S 50 0 50 0 0\n", "", "S 0 100 0 0 0\n", "", "S 100 100 100 0 0\n", "",
            "S 0 100 100 100 0\n", "", "S 0 0 100 0 0\n", "", "S 0 100 100 0 0\n", "S 100 70 0 70 0\n"};
        for (int k = 0; k < pieces.length; k++) {
            Due.due("PIECE " + java.util.Arrays.toString(pieces[k]), one(1, pieces[k]), due[k]);
        }
    }

    private static void pieceAtACorner() {
        Due.about("Terms 4: be it one place, a corner of THE WINDOW");
        int[][] ends = {{-10, 10, 10, -10}, {90, -10, 110, 10}, {90, 110, 110, 90}, {-10, 90, 10, 110}};
        String[] due = {"S 0 100 0 100 0\n", "S 100 100 100 100 0\n", "S 100 0 100 0 0\n", "S 0 0 0 0 0\n"};
        for (int k = 0; k < 4; k++) {
            int[] e = ends[k];
            Due.due("PIECE through corner " + k, one(1, e), due[k]);
            Due.due("LINE through corner " + k, one(2, e), due[k]);
            Due.due("RAY through corner " + k, one(3, e), due[k]);
            Due.due("the other way", one(1, e[2], e[3], e[0], e[1]), due[k]);
            int out = k == 0 || k == 1 ? -1 : 1;
            for (int kind = 1; kind <= 3; kind++) {
                Due.due("KIND " + kind + " just beside it", one(kind, e[0], e[1] + out, e[2], e[3] + out), "");
            }
        }
    }

    private static void lineBeyondItsPoints() {
        Due.about("Terms 4: LINE a b: all through both; from the end that comes first, when one goes the way from a to b");
        int[][] lines = {{40, 50, 60, 50}, {60, 50, 40, 50}, {150, 50, 140, 50}, {140, 50, 150, 50}, {-9, 50, -8, 50}, {50, 300, 50, 299},
            {50, 299, 50, 300}, {101, 0, 101, 1}, {0, -1, 1, -1}, {150, 150, 151, 151}, {151, 151, 150, 150}};
        String[] due = {"S 0 50 100 50 0\n", "S 100 50 0 50 0\n", "S 100 50 0 50 0\n", "S 0 50 100 50 0\n", "S 0 50 100 50 0\n",
            "S 50 0 50 100 0\n", "S 50 100 50 0 0\n", "", "", "S 0 100 100 0 0\n", "S 100 0 0 100 0\n"};
        for (int k = 0; k < lines.length; k++) {
            Due.due("LINE " + java.util.Arrays.toString(lines[k]), one(2, lines[k]), due[k]);
        }
        DrawLabels far = Desks.points(-20000, -20000, -19999, -19999);
        far.object(2, 0, 1, 0);
        far.object(3, 0, 1, 0);
        far.window(39999, 40000, 39999, 40000);
        Due.due("as far as can be from POINTS that stand", Desks.drawn(far), "S 0 100 100 0 0\nS 0 100 100 0 0\n");
        far.move(0, -100, -100);
        far.move(1, -100, -100);
        far.tick(100);
        Due.due("as far as can be from POINTS that went on", Desks.drawn(far), "S 0 100 100 0 0\nS 0 100 100 0 0\n");
        far.move(0, -99, -99);
        far.move(1, -100, -100);
        Due.due("behind them a RAY is not there", Desks.drawn(far), "S 100 0 0 100 0\n");
        DrawLabels steep = Desks.points(-20000, -20000, -19999, 20000);
        steep.object(2, 0, 1, 0);
        steep.window(-20000, -19999, -40000, 40000);
        // 80000 high on 100: x is -19999.5 in the middle, and 1 is a 800-th of the sheet's
        Due.due("steep", Desks.drawn(steep), "S 50 75 50 25 0\n");
    }

    private static void rayFromItsStart() {
        Due.about("Terms 4: RAY a b: all from a on through b");
        int[][] rays = {{100, 50, 101, 50}, {101, 50, 102, 50}, {101, 50, 100, 50}, {50, 50, 51, 50}, {0, 0, -1, -1}, {-10, -10, -9, -9},
            {-10, 50, 200, 50}, {-10, 50, -11, 50}, {0, 50, -1, 50}, {50, 100, 50, 101}, {50, 0, 50, -1}, {50, 101, 50, 102},
            {50, -1, 50, -2}, {50, 50, 50, 49}};
        String[] due = {"S 100 50 100 50 0\n", "", "S 100 50 0 50 0\n", "S 50 50 100 50 0\n", "S 0 100 0 100 0\n", "S 0 100 100 0 0\n",
            "S 0 50 100 50 0\n", "", "S 0 50 0 50 0\n", "S 50 0 50 0 0\n", "S 50 100 50 100 0\n", "", "", "S 50 50 50 100 0\n"};
        for (int k = 0; k < rays.length; k++) {
            Due.due("RAY " + java.util.Arrays.toString(rays[k]), one(3, rays[k]), due[k]);
        }
    }

    private static void circleAllOfIt() {
        Due.about("Terms 4: part is 0, if THE WINDOW HAS all of that line, else 1");
        int[][] circles = {{50, 50, 50, 100}, {50, 50, 50, 101}, {50, 40, 10, 40}, {50, 40, 9, 40}, {50, 60, 50, 100}, {50, 60, 50, 101},
            {40, 50, 0, 50}, {40, 50, -1, 50}, {60, 50, 100, 50}, {60, 50, 101, 50}, {0, 50, 10, 50}, {50, 50, 54, 53},
            {-1, 50, -1, 51}, {101, 50, 101, 51}, {50, -1, 51, -1}, {50, 101, 51, 101}};
        String[] due = {"C 50 50 50 0 0\n", "C 50 50 51 1 0\n", "C 50 60 40 0 0\n", "C 50 60 41 1 0\n", "C 50 40 40 0 0\n", "C 50 40 41 1 0\n",
            "C 40 50 40 0 0\n", "C 40 50 41 1 0\n", "C 60 50 40 0 0\n", "C 60 50 41 1 0\n", "C 0 50 10 1 0\n", "C 50 50 5 0 0\n",
            "C -1 50 1 1 0\n", "C 101 50 1 1 0\n", "C 50 101 1 1 0\n", "C 50 -1 1 1 0\n"};
        for (int k = 0; k < circles.length; k++) {
            Due.due("CIRCLE " + java.util.Arrays.toString(circles[k]), one(4, circles[k]), due[k]);
        }
    }

    private static void circleFromOutside() {
        Due.about("Terms 4: a CIRCLE of whose line THE WINDOW HAS some place");
        int[][] circles = {{-10, 50, 0, 50}, {-10, 50, -1, 50}, {110, 50, 100, 50}, {110, 50, 101, 50}, {50, -10, 50, 0}, {50, -10, 50, -1},
            {50, 110, 50, 100}, {50, 110, 50, 101}, {-3, -4, 2, -4}, {-3, -4, 1, -2}, {103, 104, 103, 109}, {103, 104, 107, 106},
            {-3, 104, -3, 109}, {103, -4, 103, -9}};
        String[] due = {"C -10 50 10 1 0\n", "", "C 110 50 10 1 0\n", "", "C 50 110 10 1 0\n", "",
            "C 50 -10 10 1 0\n", "", "C -3 104 5 1 0\n", "", "C 103 -4 5 1 0\n", "", "C -3 -4 5 1 0\n", "C 103 104 5 1 0\n"};
        for (int k = 0; k < circles.length; k++) {
            Due.due("CIRCLE " + java.util.Arrays.toString(circles[k]), one(4, circles[k]), due[k]);
        }
    }

    private static void circleAroundTheWindow() {
        Due.about("Terms 4: none, if all of THE WINDOW is within it");
        // each passes a corner of THE WINDOW that is the farthest one, and then just behind it
        int[][] circles = {{50, 50, 100, 100}, {50, 50, 101, 99}, {20, 30, 100, 100}, {20, 30, 101, 99}, {80, 70, 0, 0}, {80, 70, -1, 1},
            {-10, 50, 100, 100}, {-10, 50, 101, 99}, {50, -10, 100, 100}, {50, -10, 99, 101}, {80, 20, 0, 100}, {80, 20, -1, 99}};
        String[] due = {"C 50 50 71 1 0\n", "", "C 20 70 106 1 0\n", "", "C 80 30 106 1 0\n", "",
            "C -10 50 121 1 0\n", "", "C 50 110 121 1 0\n", "", "C 80 80 113 1 0\n", ""};
        for (int k = 0; k < circles.length; k++) {
            Due.due("CIRCLE " + java.util.Arrays.toString(circles[k]), one(4, circles[k]), due[k]);
        }
    }

    private static void radiusRounded() {
        Due.about("Terms 4: the distance of a and b times UP / DOWN, ROUNDED");
        DrawLabels d = Desks.points(50, 50, 51, 50, 53, 50, 51, 51, 52, 54);
        d.window(0, 200, 0, 200);
        for (int p = 1; p < 5; p++) {
            d.object(4, 0, p, 0);
        }
        Due.due("0.5, 1.5, 0.707, 2.236", Desks.drawn(d), "C 25 75 1 0 0\nC 25 75 2 0 0\nC 25 75 1 0 0\nC 25 75 2 0 0\n");
        d.window(0, 201, 0, 201);
        // 100 / 201: 0.4975, 1.4925, 0.7035, 2.2249
        Due.due("just below a half", Desks.drawn(d), "C 25 75 0 0 0\nC 25 75 1 0 0\nC 25 75 1 0 0\nC 25 75 2 0 0\n");
        DrawLabels root = Desks.points(0, 0, 12, 1, 12, 2, 5, 4, 5, 5);
        for (int p = 1; p < 5; p++) {
            root.object(4, 0, p, 0);
        }
        // the roots of 145, 148, 41, 50 are 12.04, 12.17, 6.40, 7.07
        Due.due("roots", Desks.drawn(root), "C 0 100 12 1 0\nC 0 100 12 1 0\nC 0 100 6 1 0\nC 0 100 7 1 0\n");
        DrawLabels close = Desks.points(0, 0, 9, 3, 8, 5);
        close.object(4, 0, 1, 0);
        close.object(4, 0, 2, 0);
        // the roots of 90 and 89 are 9.4868 and 9.4340: 9.5 is the root of 90.25
        Due.due("no root meets a half", Desks.drawn(close), "C 0 100 9 1 0\nC 0 100 9 1 0\n");
        DrawLabels great = Desks.points(-20000, -20000, 20000, 20000);
        great.sheet(400, 400, 0);
        great.move(0, -100, -100);
        great.move(1, 100, 100);
        great.tick(100);
        great.object(4, 0, 1, 0);
        great.window(29999, 30000, 29999, 30000);
        // 400 times the root of 7200000000
        Due.due("the greatest one", Desks.drawn(great), "C -23999600 24000000 33941125 1 0\n");
    }

    private static void angleAtTheSides() {
        Due.about("Terms 4: an ANGLE whose b THE WINDOW HAS");
        int[][] has = {{0, 0}, {100, 0}, {0, 100}, {100, 100}};
        for (int[] b : has) {
            Due.due("b at a corner", one(5, b[0] + 500, b[1], b[0], b[1], b[0], b[1] + 500), "A " + b[0] + " " + (100 - b[1]) + " 0 2 1\n");
        }
        int[][] hasNot = {{-1, 50}, {101, 50}, {50, -1}, {50, 101}};
        for (int[] b : hasNot) {
            Due.due("b just outside, a and c inside", one(5, 40, 40, b[0], b[1], 60, 60), "");
        }
    }

    private static void angleOpening() {
        Due.about("Terms 4: k: 0 less than right, 1 right, 2 more, 3 both go opposite ways, 4 both go the same way");
        int[][] ways = {{-1, 100}, {0, 100}, {-2, 100}, {-100, -1}, {-100, 0}, {-100, -2}, {200, 2}, {200, 3}, {200, 1}, {1, -100}, {2, -100}, {0, -100}};
        String[] due = {"0 2 1", "0 2 0", "0 2 2", "0 4 3", "0 4 2", "0 4 2", "0 0 4", "0 0 0", "0 0 0", "0 6 1", "0 6 0", "0 6 2"};
        for (int k = 0; k < ways.length; k++) {
            Due.due("from 100, 1 to " + ways[k][0] + ", " + ways[k][1],
                one(5, 150, 51, 50, 50, 50 + ways[k][0], 50 + ways[k][1]), "A 50 50 " + due[k] + "\n");
        }
    }

    private static void angleOfShortWays() {
        Due.about("Terms 4: k of ways as short as can be");
        int[][] ways = {{1, 0}, {-1, 0}, {0, 1}, {0, -1}, {1, 1}, {-1, 1}, {1, 5}, {-1, 5}};
        String[] due = {"0 4", "4 3", "2 1", "6 1", "1 0", "3 2", "1 0", "2 2"};
        for (int k = 0; k < ways.length; k++) {
            Due.due("from 1, 0 to " + ways[k][0] + ", " + ways[k][1],
                one(5, 51, 50, 50, 50, 50 + ways[k][0], 50 + ways[k][1]), "A 50 50 0 " + due[k] + "\n");
        }
    }

    private static void angleFar() {
        Due.about("Terms 4: k of ways as long as can be");
        DrawLabels d = Desks.points(20000, 20000, -20000, -20000, 20000, 19999, -20000, 20000);
        d.move(0, 100, 100);
        d.move(1, -100, -100);
        d.move(2, 100, 100);
        d.move(3, -100, 100);
        d.tick(100);
        d.window(-30000, 30000, -30000, 30000);
        d.object(5, 0, 1, 2);
        d.object(5, 1, 0, 3);
        d.object(5, 3, 1, 0);
        d.object(5, 0, 1, 0);
        Due.due("60000, 60000 and 60000, 59999, and others", Desks.drawn(d), "A 0 100 1 0 0\nA 100 0 5 4 0\nA 0 100 2 1 0\nA 0 100 1 1 4\n");
    }

    private static void octants() {
        Due.about("Terms 4: OCTANT: a way that parts two eighths is in the later one");
        int[][] ways = {{100, 0}, {100, 1}, {100, 99}, {100, 100}, {99, 100}, {1, 100}, {0, 100}, {-1, 100}, {-99, 100}, {-100, 100},
            {-100, 99}, {-100, 1}, {-100, 0}, {-100, -1}, {-100, -99}, {-100, -100}, {-99, -100}, {-1, -100}, {0, -100}, {1, -100},
            {99, -100}, {100, -100}, {100, -99}, {100, -1}};
        for (int k = 0; k < ways.length; k++) {
            int x = ways[k][0];
            int y = ways[k][1];
            int octant = k / 3;
            String way = x + ", " + y;
            Due.due("f of " + way, one(5, 50 + x, 50 + y, 50, 50, 60, 50), "A 50 50 " + octant + " 0 " + opening(x, y) + "\n");
            Due.due("t of " + way, one(5, 60, 50, 50, 50, 50 + x, 50 + y), "A 50 50 0 " + octant + " " + opening(x, y) + "\n");
            DrawLabels ticks = Desks.points(50, 50, 50 + x, 50 + y);
            ticks.object(6, 0, 1, 2);
            ticks.draw();
            Due.due("o of " + way, ticks.mark(1, 4), octant);
        }
    }

    /** k of a way and x rising. */
    private static int opening(int x, int y) {
        return y == 0 ? x > 0 ? 4 : 3 : x > 0 ? 0 : x == 0 ? 1 : 2;
    }

    private static void ticksAtTheSides() {
        Due.about("Terms 4: TICKS whose middle (a fraction) THE WINDOW HAS");
        int[][] ends = {{-1, 50, 0, 50}, {-1, 50, 1, 50}, {100, 50, 101, 50}, {99, 50, 101, 50}, {50, -1, 50, 0}, {50, -1, 50, 1},
            {50, 100, 50, 101}, {50, 99, 50, 101}, {0, 0, 1, 1}, {100, 100, 99, 99}, {-400, 50, 500, 50}};
        String[] due = {"", "T 0 50 1 0\n", "", "T 100 50 1 0\n", "", "T 50 100 1 2\n",
            "", "T 50 0 1 2\n", "T 1 100 1 1\n", "T 100 1 1 5\n", "T 50 50 1 0\n"};
        for (int k = 0; k < ends.length; k++) {
            Due.due("TICKS " + java.util.Arrays.toString(ends[k]), one(6, ends[k]), due[k]);
        }
    }

    private static void othersByNumber() {
        Due.about("Terms 4: AREAS by number, then the other OBJECTS by number. Then SOLIDS by number. Then LABELS");
        DrawLabels d = Desks.points(10, 10, 30, 10, 10, 30, 50, 50);
        d.object(0, 3, 0, 0);
        Desks.area(d, 0, 1, 2);
        d.object(1, 0, 1, 0);
        Desks.area(d, 2, 1, 0);
        d.style(3, 1);
        for (int s = 0; s < 2; s++) {
            d.solid(3, 1 + s);
            d.vertex(s, 0, 0, 0);
            d.vertex(s, 9, 0, 0);
            d.vertex(s, 0, 9, 0);
            d.face(s, 3, 0x210);
        }
        d.label(2, 1);
        d.label(0, 1);
        d.grid(100);
        // LABEL 0 on PLACE 1, beside the AREAS' upper STROKES; LABEL 1 on PLACE 3, off all EDGES
        Due.due("all", Desks.drawn(d), "S 0 100 0 0 1\nS 100 100 100 0 1\nS 0 100 100 100 1\nS 0 0 100 0 1\n"
            + "S 10 90 30 90 0\nS 10 80 20 80 0\nS 10 90 30 90 1\nS 10 80 20 80 1\nD 50 50 0\nS 10 90 30 90 0\n"
            + "S 50 50 59 50 0\nS 50 50 50 41 0\nS 59 50 50 41 0\nS 50 50 68 50 0\nS 50 50 50 32 0\nS 68 50 50 32 0\n"
            + "W 22 79 1 0\nW 42 39 1 1\n");
    }
}
