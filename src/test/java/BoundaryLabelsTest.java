/** Promises 26 and 29, and the terms of LABELS, sentence by sentence: what just fits, just meets, just costs. */
public final class BoundaryLabelsTest {
    private static final int UNKNOWN = DrawLabels.UNKNOWN, OUTSIDE = DrawLabels.OUTSIDE, FULL = DrawLabels.FULL, NONE = DrawLabels.NONE;
    private static final int LEAST = Integer.MIN_VALUE, MOST = Integer.MAX_VALUE;

    public static void main(String[] args) {
        labelNumbers();
        labelsFull();
        placedNumbers();
        placedNotThereThen();
        anchorOfAStroke();
        anchorOfACircle();
        anchorOfAngleAndTicks();
        anchorOfAnArea();
        anchorOfAnAreaBelowZero();
        outWithoutAMark();
        outOfAnArea();
        openPlaces();
        openOfEightLetters();
        costOfADot();
        costOfAStroke();
        costOfAllStrokes();
        costOfEachMark();
        costOfOthers();
        meetBeside();
        meetAbove();
        bestFewestOut();
        bestOneOutForTwo();
        bestLeastSum();
        bestLeastRow();
        bestOutIsEight();
        sixAreBest();
        sevenGoByRounds();
        thoseWithAMarkCount();
        roundsLeastCost();
        roundsEnd();
        wordsByNumber();
        Due.end();
    }

    private static void labelNumbers() {
        Due.about("26: with n letters (1 .. 8). UNKNOWN, OUTSIDE");
        DrawLabels d = Desks.eachKind();
        int[] wrong = {0, 9, -1, LEAST, MOST};
        for (int n : wrong) {
            Due.due("label(0, " + n + ")", d.label(0, n), OUTSIDE);
            Due.due("UNKNOWN is ahead of OUTSIDE", d.label(8, n), UNKNOWN);
        }
        Due.due("label(-1, 1)", d.label(-1, 1), UNKNOWN);
        Due.due("label(8, 1)", d.label(8, 1), UNKNOWN);
        Due.due("count(3)", d.count(3), 0);
        Due.due("label(0, 1)", d.label(0, 1), 0);
        Due.due("label(7, 8)", d.label(7, 8), 1);
        Due.due("the same OBJECT again", d.label(7, 8), 2);
    }

    private static void labelsFull() {
        Due.about("26: LABELS (20 at most), numbered from 0 on; FULL");
        DrawLabels d = Desks.eachKind();
        for (int l = 0; l < 20; l++) {
            Due.due("label " + l, d.label(l % 8, 1 + l % 8), l);
            d.label(0, 9);
        }
        Due.due("the 21st", d.label(0, 1), FULL);
        Due.due("UNKNOWN is ahead of FULL", d.label(8, 1), UNKNOWN);
        Due.due("OUTSIDE is ahead of FULL", d.label(0, 9), OUTSIDE);
        Due.due("count(3)", d.count(3), 20);
        Due.due("placed(19)", d.placed(19), NONE);
        Due.due("placed(20)", d.placed(20), UNKNOWN);
        d.draw();
        Due.due("all are told of", d.placed(19) == NONE ? 1 : 0, 0);
    }

    private static void placedNumbers() {
        Due.about("29: UNKNOWN");
        DrawLabels d = Desks.eachKind();
        int[] wrong = {-1, 1, LEAST, MOST};
        Due.due("placed(0) without LABELS", d.placed(0), UNKNOWN);
        d.label(0, 1);
        d.draw();
        for (int n : wrong) {
            Due.due("placed(" + n + ")", d.placed(n), UNKNOWN);
        }
        Due.due("placed(0)", d.placed(0) == UNKNOWN ? 1 : 0, 0);
    }

    private static void placedNotThereThen() {
        Due.about("29: PLACE of a LABEL in THE DRAWING, 8 OUT; NONE: it was not there then");
        DrawLabels d = Desks.sheet(40, 40);
        Desks.dots(d, 20, 20, 41, 20);
        d.label(0, 1);
        d.label(1, 1);
        Due.due("placed(0) without a DRAWING", d.placed(0), NONE);
        d.draw();
        Due.due("placed(0)", d.placed(0), 0);
        Due.due("placed(1)", d.placed(1), 8);
        d.label(0, 1);
        Due.due("a later one", d.placed(2), NONE);
        Due.due("placed(0)", d.placed(0), 0);
        d.draw();
        Due.due("in the next DRAWING", d.placed(2), 2);
    }

    private static void anchorOfAStroke() {
        Due.about("Terms 5: of a PIECE, LINE, RAY (X1 + X2) / 2, (Y1 + Y2) / 2 of its STROKE, rounded down");
        DrawLabels piece = Desks.points(10, 20, 15, 27);
        piece.object(1, 0, 1, 0);
        piece.label(0, 1);
        // 12.5, 76.5; PLACES 0 and 1 meet the STROKE's end at 15, 73
        Due.due("a PIECE's", Desks.drawn(piece, 'W'), "W 9 64 1 0\n");
        DrawLabels line = Desks.points(10, 20, 11, 20);
        line.object(2, 0, 1, 0);
        line.label(0, 1);
        line.window(0, 95, 0, 95);
        line.sheet(95, 95, 0);
        // 0 .. 95 at Y 75: 47.5
        Due.due("a LINE's", Desks.drawn(line, 'W'), "W 49 64 1 0\n");
        DrawLabels ray = Desks.points(10, 20, 11, 20);
        ray.object(3, 0, 1, 0);
        ray.label(0, 1);
        ray.window(0, 95, 0, 95);
        ray.sheet(95, 95, 0);
        // 10 .. 95: 52.5
        Due.due("a RAY's", Desks.drawn(ray, 'W'), "W 54 64 1 0\n");
    }

    private static void anchorOfACircle() {
        Due.about("Terms 5: of a CIRCLE X, Y - r");
        DrawLabels d = Desks.points(50, 50, 50, 80);
        d.object(4, 0, 1, 0);
        d.label(0, 2);
        Due.due("50, 50 - 30", Desks.drawn(d, 'W'), "W 53 16 2 0\n");
        DrawLabels high = Desks.points(50, 50, 50, 102);
        high.object(4, 0, 1, 0);
        high.label(0, 2);
        // 50, -2: PLACE 5 is the first one that is open, at 50 - 2 - 12, -2 + 2
        Due.due("above the sheet", Desks.drawn(high, 'W'), "W 36 0 2 0\n");
    }

    private static void anchorOfAngleAndTicks() {
        Due.about("Terms 5: of a DOT, ANGLE, TICKS the X, Y of its MARK");
        DrawLabels d = Desks.points(20, 30, 41, 31, 60, 20);
        d.object(5, 0, 1, 2);
        d.label(0, 1);
        Due.due("an ANGLE's", Desks.drawn(d, 'W'), "W 44 65 1 0\n");
        DrawLabels ticks = Desks.points(20, 30, 41, 31);
        ticks.object(6, 0, 1, 3);
        ticks.label(0, 1);
        // 30.5, 69.5, a half up
        Due.due("TICKS'", Desks.drawn(ticks, 'W'), "W 34 66 1 0\n");
        DrawLabels dot = Desks.points(41, 31);
        dot.object(0, 0, 0, 0);
        dot.label(0, 1);
        dot.window(0, 200, 0, 200);
        // 20.5, 84.5, a half up
        Due.due("a DOT's", Desks.drawn(dot, 'W'), "W 24 81 1 0\n");
    }

    private static void anchorOfAnArea() {
        Due.about("Terms 5: of an AREA the sums of X and of Y of its POINTS' places ON THE SHEET, by how many they are, rounded down");
        DrawLabels d = new DrawLabels();
        d.hatch(1000);
        d.window(0, 200, 0, 200);
        Desks.areaAt(d, 21, 100, 41, 100, 61, 140);
        d.label(0, 1);
        // X 11, 21, 31 (each a half up): 21; Y 50, 50, 30: 43.33
        Due.due("of places ON THE SHEET", Desks.drawn(d), "W 24 39 1 0\n");
        DrawLabels twice = new DrawLabels();
        twice.hatch(1000);
        Desks.add(twice, 10, 50, 40, 50, 40, 80);
        Desks.area(twice, 0, 1, 2, 2);
        twice.label(0, 1);
        // X (10 + 40 + 40 + 40) / 4 = 32.5; Y (50 + 50 + 20 + 20) / 4 = 35
        Due.due("a POINT that is there twice counts twice", Desks.drawn(twice), "W 35 31 1 0\n");
    }

    private static void anchorOfAnAreaBelowZero() {
        Due.about("Terms 5: rounded down, below 0");
        DrawLabels left = new DrawLabels();
        left.hatch(1000);
        Desks.areaAt(left, -20, 50, 5, 50, 14, 80);
        left.label(0, 1);
        // X -1 / 3, so -1; Y (50 + 50 + 20) / 3
        Due.due("left of the sheet", Desks.drawn(left), "W 2 36 1 0\n");
        DrawLabels high = new DrawLabels();
        high.hatch(1000);
        Desks.areaAt(high, 30, 120, 50, 105, 40, 76);
        high.label(0, 1);
        // Y (-20 - 5 + 24) / 3, so -1; X 40: PLACE 5 is the first one that is open
        Due.due("above the sheet", Desks.drawn(high), "W 32 1 1 0\n");
    }

    private static void outWithoutAMark() {
        Due.about("Terms 5: It is OUT, if its OBJECT has no MARK in the DRAWING");
        DrawLabels d = Desks.points(50, 50, 50, 50, 101, 50, 40, 60);
        d.object(0, 0, 0, 0);
        d.object(0, 2, 0, 0);
        d.object(1, 0, 1, 0);
        d.object(5, 0, 2, 3);
        d.object(4, 2, 0, 0);
        for (int o = 0; o < 5; o++) {
            d.label(o, 1);
        }
        d.draw();
        // the CIRCLE's anchor is 101, -1: PLACE 5 is within the sheet
        int[] due = {0, 8, 8, 8, 5};
        for (int l = 0; l < 5; l++) {
            Due.due("placed(" + l + ")", d.placed(l), due[l]);
        }
        Due.due("count(9)", d.count(9), 3);
        d.hide(0, true);
        d.draw();
        Due.due("HIDDEN", d.placed(0), 8);
        Due.due("count(9)", d.count(9), 4);
    }

    private static void outOfAnArea() {
        Due.about("Terms 5: (an AREA: if it is FALLEN, or HIDDEN by KIND)");
        DrawLabels d = Desks.points(40, 42, 60, 42, 50, 48, 50, 42);
        Desks.area(d, 0, 1, 2);
        Desks.area(d, 0, 1, 3);
        d.label(0, 1);
        d.label(1, 1);
        Due.due("no line meets AREA 0", Desks.drawn(d), "W 53 52 1 0\n");
        Due.due("AREA 1 has FALLEN", d.placed(1), 8);
        d.hide(7, true);
        d.draw();
        Due.due("HIDDEN by KIND", d.placed(0), 8);
        DrawLabels all = new DrawLabels();
        all.window(40, 60, 41, 49);
        Desks.areaAt(all, 0, 0, 100, 0, 100, 90, 0, 90);
        all.label(0, 1);
        all.draw();
        Due.due("no line within THE WINDOW, and it is all around it", all.placed(0), 0);
    }

    private static final int[] TOPS = {-4, -11, -12, -11, -4, 2, 3, 2};

    private static int leftOf(int place, int w) {
        return new int[] {3, 2, -w / 2, -2 - w, -3 - w, -2 - w, -w / 2, 2}[place];
    }

    /** The first PLACE about x, y that is within a sheet. */
    private static int firstOpen(int x, int y, int n, int wide, int high) {
        int w = 6 * n;
        for (int place = 0; place < 8; place++) {
            int left = x + leftOf(place, w);
            int top = y + TOPS[place];
            if (left >= 0 && left + w - 1 <= wide - 1 && top >= 0 && top + 8 <= high - 1) {
                return place;
            }
        }
        return 8;
    }

    /** A DOT at each X, Y of a sheet with one LABEL: it takes the first PLACE that is OPEN, or none is. */
    private static void openOn(int wide, int high, int n) {
        for (int x = 0; x <= wide; x++) {
            for (int y = 0; y <= high; y++) {
                DrawLabels d = Desks.sheet(wide, high, x, high - y);
                d.object(0, 0, 0, 0);
                d.label(0, n);
                d.draw();
                int due = firstOpen(x, y, n, wide, high);
                Due.due(n + " letters at " + x + ", " + y + " of " + wide + ", " + high, d.placed(0), due);
                if (due < 8) {
                    Due.due("left of PLACE " + due, d.mark(2, 1), x + leftOf(due, 6 * n));
                    Due.due("top of PLACE " + due, d.mark(2, 2), y + TOPS[due]);
                }
                Due.due("its COST", d.count(10), due < 8 ? due : 0);
            }
        }
    }

    private static void openPlaces() {
        Due.about("Terms 5: OPEN, if that is all within 0 .. W - 1, 0 .. H - 1");
        openOn(24, 36, 1);
        openOn(40, 24, 2);
        openOn(16, 16, 1);
    }

    private static void openOfEightLetters() {
        Due.about("Terms 5: a BOX, w = 6 n wide, 9 high");
        openOn(51, 18, 8);
        openOn(50, 18, 8);
        openOn(48, 21, 8);
        openOn(47, 21, 8);
    }

    /** COST of the only OPEN PLACE of LABEL 0: it takes 11 .. 16, 4 .. 12. */
    private static int cost(DrawLabels d) {
        d.draw();
        Due.due("placed(0)", d.placed(0), 0);
        return d.count(10);
    }

    /** A sheet of 40, 16 with a DOT at 8, 8 and its LABEL. */
    private static DrawLabels narrow() {
        DrawLabels d = Desks.sheet(40, 16);
        Desks.dots(d, 8, 8);
        d.label(0, 1);
        return d;
    }

    private static void costOfADot() {
        Due.about("Terms 5: 10 more for each MARK D whose X, Y it takes");
        for (int x = 9; x <= 18; x++) {
            for (int y = 2; y <= 14; y++) {
                DrawLabels d = narrow();
                Desks.dots(d, x, 16 - y);
                boolean takes = x >= 11 && x <= 16 && y >= 4 && y <= 12;
                Due.due("a DOT at " + x + ", " + y, cost(d), takes ? 10 : 0);
            }
        }
        DrawLabels d = narrow();
        Desks.dots(d, 11, 4, 16, 12, 16, 12);
        Due.due("three DOTS", cost(d), 30);
    }

    private static void costOfAStroke() {
        Due.about("Terms 5: 4 more for each MARK S some place of which (on the straight way, fractions too) it takes");
        int[][] touching = {{18, 10, 14, 14}, {14, 14, 18, 10}, {17, 9, 15, 14}, {5, 10, 11, 10}, {16, 10, 30, 10}, {12, 6, 14, 9}, {13, 0, 13, 4},
            {13, 16, 13, 12}, {0, 4, 40, 4}, {0, 12, 40, 12}, {11, 0, 11, 16}, {16, 0, 16, 16}, {0, 0, 40, 16}, {9, 6, 13, 2}, {18, 6, 14, 2},
            {9, 10, 13, 14}};
        int[][] missing = {{18, 11, 15, 14}, {17, 9, 16, 14}, {5, 10, 10, 10}, {17, 10, 30, 10}, {13, 0, 13, 3}, {13, 16, 13, 13},
            {0, 3, 40, 3}, {0, 13, 40, 13}, {10, 0, 10, 16}, {17, 0, 17, 16}, {9, 5, 13, 1}, {18, 5, 14, 1}, {9, 11, 13, 15}, {0, 0, 40, 5}};
        for (int[] s : touching) {
            Due.due("STROKE " + java.util.Arrays.toString(s), cost(beside(s)), 4);
        }
        for (int[] s : missing) {
            Due.due("STROKE " + java.util.Arrays.toString(s), cost(beside(s)), 0);
        }
    }

    private static void costOfAllStrokes() {
        Due.about("Terms 5: 4 more for each MARK S some place of which it takes, whichever way it goes");
        for (int x1 = 9; x1 <= 18; x1++) {
            for (int y1 = 2; y1 <= 14; y1++) {
                for (int x2 = 9; x2 <= 18; x2++) {
                    for (int y2 = 2; y2 <= 14; y2++) {
                        int[] s = {x1, y1, x2, y2};
                        if (x1 != x2 || y1 != y2) {
                            Due.due("STROKE " + java.util.Arrays.toString(s), cost(beside(s)), takesSome(s) ? 4 : 0);
                        }
                    }
                }
            }
        }
    }

    /** Whether a way has a place within 11 .. 16, 4 .. 12: one of its ends, or where it crosses a side. */
    private static boolean takesSome(int[] s) {
        boolean starts = s[0] >= 11 && s[0] <= 16 && s[1] >= 4 && s[1] <= 12;
        return starts || crosses(s[0], s[2], 11, s[1], s[3], 4, 12) || crosses(s[0], s[2], 16, s[1], s[3], 4, 12)
            || crosses(s[1], s[3], 4, s[0], s[2], 11, 16) || crosses(s[1], s[3], 12, s[0], s[2], 11, 16);
    }

    /** Whether the way is somewhere at a = at with b within least .. most. */
    private static boolean crosses(int a1, int a2, int at, int b1, int b2, int least, int most) {
        int way = a2 - a1;
        if (way == 0 || (at - a1) * (at - a2) > 0) {
            return false;
        }
        // b times way, with way made positive
        int b = (b1 * way + (b2 - b1) * (at - a1)) * Integer.signum(way);
        return b >= least * Math.abs(way) && b <= most * Math.abs(way);
    }

    /** The narrow sheet with a PIECE from X1, Y1 to X2, Y2. */
    private static DrawLabels beside(int[] s) {
        DrawLabels d = narrow();
        Desks.add(d, s[0], 16 - s[1], s[2], 16 - s[3]);
        d.object(1, 1, 2, 0);
        return d;
    }

    private static void costOfEachMark() {
        Due.about("Terms 5: 4 more for each MARK S: of THE GRID, of an AREA, of an EDGE");
        DrawLabels grid = narrow();
        grid.grid(5);
        // x 15; Y 11, 6
        Due.due("of THE GRID", cost(grid), 12);
        DrawLabels area = narrow();
        Desks.areaAt(area, 13, 10, 12, 15, 14, 15);
        Due.due("a tip of an AREA, one place", cost(area), 4);
        DrawLabels edges = narrow();
        edges.point(12, 8);
        edges.solid(1, 1);
        edges.vertex(0, 0, 0, 0);
        edges.vertex(0, 2, 0, 0);
        edges.vertex(0, 0, 2, 0);
        edges.face(0, 3, 0x210);
        Due.due("three EDGES", cost(edges), 12);
        DrawLabels both = beside(new int[] {12, 6, 14, 9});
        both.object(2, 1, 2, 0);
        both.object(0, 1, 0, 0);
        Due.due("two STROKES and a DOT", cost(both), 18);
    }

    private static void costOfOthers() {
        Due.about("Terms 5: THE COST of a PLACE: its number, MARKS D and S alone");
        DrawLabels d = narrow();
        Desks.add(d, 13, 8, 14, 9, 15, 8);
        d.object(4, 1, 2, 0);
        d.object(5, 2, 1, 3);
        d.object(6, 1, 2, 1);
        Due.due("C, A, T cost nothing", cost(d), 0);
    }

    /** LABELS of two DOTS, one letter each. */
    private static DrawLabels two(DrawLabels d, int... xy) {
        Desks.dots(d, xy);
        d.label(0, 1);
        d.label(1, 1);
        d.draw();
        return d;
    }

    private static void meetBeside() {
        Due.about("Terms 5: Two BOXES MEET, if both take some X, Y: beside one another");
        DrawLabels apart = two(Desks.sheet(60, 16), 8, 8, 14, 8);
        // 11 .. 16 and 17 .. 22
        Due.due("placed(0)", apart.placed(0), 0);
        Due.due("placed(1)", apart.placed(1), 0);
        DrawLabels meet = two(Desks.sheet(60, 16), 8, 8, 13, 8);
        // 11 .. 16 and 16 .. 21; on PLACE 4 the second one takes 4 .. 9, and a DOT
        Due.due("placed(0)", meet.placed(0), 0);
        Due.due("placed(1)", meet.placed(1), 4);
        Due.due("count(10)", meet.count(10), 24);
        DrawLabels turned = two(Desks.sheet(60, 16), 14, 8, 8, 8);
        Due.due("the right one first", turned.placed(0), 0);
        Due.due("the left one", turned.placed(1), 0);
    }

    private static void meetAbove() {
        Due.about("Terms 5: Two BOXES MEET, if both take some X, Y: above one another");
        DrawLabels apart = two(Desks.sheet(16, 60), 4, 52, 4, 43);
        // 4 .. 12 and 13 .. 21
        Due.due("placed(0)", apart.placed(0), 0);
        Due.due("placed(1)", apart.placed(1), 0);
        DrawLabels meet = two(Desks.sheet(16, 60), 4, 52, 4, 44);
        // 4 .. 12 and 12 .. 20; PLACE 6 is below
        Due.due("placed(0)", meet.placed(0), 0);
        Due.due("placed(1)", meet.placed(1), 6);
        DrawLabels turned = two(Desks.sheet(16, 60), 4, 43, 4, 52);
        Due.due("the lower one first", turned.placed(0), 0);
        Due.due("the upper one", turned.placed(1), 0);
    }

    private static void bestFewestOut() {
        Due.about("Terms 5: THE BEST of all ways: the fewest OUT");
        DrawLabels d = two(Desks.sheet(60, 16), 12, 8, 8, 8);
        // LABEL 0 costs nothing on 15 .. 20, but that leaves LABEL 1 (11 .. 16) OUT; on 3 .. 8 it takes a DOT
        Due.due("placed(0)", d.placed(0), 4);
        Due.due("placed(1)", d.placed(1), 0);
        Due.due("count(9)", d.count(9), 0);
        Due.due("count(10)", d.count(10), 24);
    }

    private static void bestOneOutForTwo() {
        Due.about("Terms 5: the fewest OUT, of these the least sum of COSTS");
        DrawLabels d = Desks.sheet(50, 16);
        Desks.dots(d, 28, 8, 8, 8, 43, 8, 49, 8, 12, 8);
        d.label(0, 2);
        d.label(1, 1);
        d.label(2, 1);
        d.label(3, 1);
        d.draw();
        // LABEL 0 on 31 .. 42 leaves LABELS 2 (34 .. 39) and 3 (40 .. 45) OUT, on 13 .. 24 LABEL 1 (11 .. 16), which costs 10
        int[] due = {4, 8, 4, 4};
        for (int l = 0; l < 4; l++) {
            Due.due("placed(" + l + ")", d.placed(l), due[l]);
        }
        Due.due("count(9)", d.count(9), 1);
        Due.due("count(10)", d.count(10), 22);
    }

    private static void bestLeastSum() {
        Due.about("Terms 5: of these the least sum of COSTS");
        DrawLabels d = Desks.sheet(60, 16);
        Desks.dots(d, 20, 8, 26, 8);
        d.label(0, 1);
        d.label(1, 1);
        d.label(0, 1);
        d.draw();
        // DOT 0: 23 .. 28 takes DOT 1 and costs 10, 11 .. 16 costs 4; DOT 1: 29 .. 34 costs 0, 17 .. 22 takes DOT 0 and costs 14
        Due.due("placed(0)", d.placed(0), 0);
        Due.due("placed(1)", d.placed(1), 0);
        Due.due("placed(2)", d.placed(2), 4);
        Due.due("count(10)", d.count(10), 14);
        DrawLabels sum = two(Desks.sheet(60, 16), 20, 8, 26, 8);
        Due.due("the cheaper one is not the first: placed(0)", sum.placed(0), 4);
        Due.due("placed(1)", sum.placed(1), 0);
        Due.due("count(10)", sum.count(10), 4);
    }

    private static void bestLeastRow() {
        Due.about("Terms 5: of these the least row, by numbers of LABELS (the first one that differs counts)");
        DrawLabels d = Desks.sheet(100, 100);
        Desks.dots(d, 50, 50);
        for (int l = 0; l < 4; l++) {
            d.label(0, 1);
            d.draw();
            for (int k = 0; k <= l; k++) {
                Due.due((l + 1) + " LABELS: placed(" + k + ")", d.placed(k), 2 * k);
            }
        }
        // of four letters: 53 .. 76, 46 .. 54 on 0; 2 is 38 .. 61, 38 .. 46: they MEET; 0 and 3 (24 .. 47, 39 .. 47) do not
        DrawLabels wide = Desks.sheet(100, 100);
        Desks.dots(wide, 50, 50);
        wide.label(0, 4);
        wide.label(0, 4);
        wide.draw();
        Due.due("0 and 3, not 3 and 0: placed(0)", wide.placed(0), 0);
        Due.due("placed(1)", wide.placed(1), 3);
    }

    private static void bestOutIsEight() {
        Due.about("Terms 5: the least row (8 for OUT)");
        DrawLabels d = Desks.sheet(30, 16);
        Desks.dots(d, 15, 8);
        for (int l = 0; l < 4; l++) {
            d.label(0, 1);
        }
        d.draw();
        int[] due = {0, 4, 8, 8};
        for (int l = 0; l < 4; l++) {
            Due.due("placed(" + l + ")", d.placed(l), due[l]);
        }
        Due.due("count(9)", d.count(9), 2);
        Due.due("count(10)", d.count(10), 4);
    }

    /** DOT 0 leaves DOT 1 no PLACE if it takes its cheapest one; the others have room. */
    private static DrawLabels row(int labels) {
        DrawLabels d = Desks.sheet(200, 16);
        Desks.dots(d, 12, 8, 8, 8, 50, 8, 70, 8, 90, 8, 110, 8, 130, 8);
        for (int o = 0; o < labels; o++) {
            d.label(o, 1);
        }
        d.draw();
        return d;
    }

    private static void sixAreBest() {
        Due.about("Terms 5: if they are 6 or fewer, THE BEST of all ways");
        for (int labels = 2; labels <= 6; labels++) {
            DrawLabels d = row(labels);
            Due.due(labels + ": placed(0)", d.placed(0), 4);
            for (int l = 1; l < labels; l++) {
                Due.due(labels + ": placed(" + l + ")", d.placed(l), 0);
            }
            Due.due("count(9)", d.count(9), 0);
            Due.due("count(10)", d.count(10), 24);
            Due.due("count(11)", d.count(11), 0);
        }
        DrawLabels none = row(0);
        Due.due("none at all: count(9)", none.count(9), 0);
        Due.due("count(11)", none.count(11), 0);
    }

    private static void sevenGoByRounds() {
        Due.about("Terms 5: Else by ROUNDS: at first all are OUT; each takes, as the others are then, the OPEN PLACE of least COST");
        DrawLabels d = row(7);
        Due.due("placed(0)", d.placed(0), 0);
        Due.due("placed(1)", d.placed(1), 8);
        for (int l = 2; l < 7; l++) {
            Due.due("placed(" + l + ")", d.placed(l), 0);
        }
        Due.due("count(9)", d.count(9), 1);
        Due.due("count(10)", d.count(10), 0);
        Due.due("count(11)", d.count(11), 2);
    }

    private static void thoseWithAMarkCount() {
        Due.about("Terms 5: Of those whose OBJECT has a MARK: if they are 6 or fewer");
        DrawLabels d = Desks.sheet(200, 16);
        Desks.dots(d, 201, 8, 12, 8, 8, 8, 50, 8, 70, 8, 90, 8, 110, 8);
        d.label(0, 1);
        d.label(0, 1);
        for (int o = 1; o < 7; o++) {
            d.label(o, 1);
        }
        d.draw();
        Due.due("eight LABELS, two without a MARK: count(11)", d.count(11), 0);
        Due.due("placed(0)", d.placed(0), 8);
        Due.due("placed(1)", d.placed(1), 8);
        Due.due("placed(2)", d.placed(2), 4);
        Due.due("placed(3)", d.placed(3), 0);
        Due.due("count(9)", d.count(9), 2);
        Desks.areaAt(d, 150, 1, 160, 1, 155, 9);
        d.label(7, 1);
        d.draw();
        Due.due("an AREA without a line is the seventh: count(11)", d.count(11), 2);
        Due.due("placed(2)", d.placed(2), 0);
        Due.due("placed(3)", d.placed(3), 8);
    }

    /** Six LABELS that have room, and a seventh one of a DOT at 15, 8. */
    private static DrawLabels seventh(int... strokes) {
        DrawLabels d = Desks.sheet(200, 16);
        Desks.dots(d, 50, 8, 70, 8, 90, 8, 110, 8, 130, 8, 150, 8, 15, 8);
        for (int o = 0; o < 7; o++) {
            d.label(o, 1);
        }
        for (int x : strokes) {
            int p = d.point(x, 0);
            d.point(x, 16);
            d.object(1, p, p + 1, 0);
        }
        d.draw();
        return d;
    }

    private static void roundsLeastCost() {
        Due.about("Terms 5: the OPEN PLACE of least COST (of these the least) on which it MEETS none of them");
        Due.due("0 costs 0", seventh().placed(6), 0);
        Due.due("0 and 4 cost 4 each", seventh(20).placed(6), 0);
        Due.due("0 costs 8, 4 costs 4", seventh(20, 21).placed(6), 4);
        Due.due("0 and 4 cost 8 each", seventh(20, 21, 8).placed(6), 0);
        Due.due("0 costs 12, 4 costs 8", seventh(20, 21, 22, 8).placed(6), 4);
    }

    private static void roundsEnd() {
        Due.about("Terms 5: It ends behind the ROUND in which none changed");
        Due.due("nothing changes in the second one", seventh().count(11), 2);
        DrawLabels d = Desks.sheet(16, 16);
        Desks.dots(d, 8, 8);
        for (int l = 0; l < 7; l++) {
            d.label(0, 8);
        }
        d.draw();
        Due.due("nor in the first one, if all stay OUT", d.count(11), 1);
        Due.due("count(9)", d.count(9), 7);
        DrawLabels last = Desks.sheet(200, 16);
        Desks.dots(last, 50, 8);
        for (int l = 0; l < 19; l++) {
            last.label(0, 8);
        }
        last.label(0, 1);
        last.draw();
        // 48 wide on 53 .. 100; 4 needs 51; the last one finds 41 .. 46
        Due.due("twenty of them: placed(0)", last.placed(0), 0);
        Due.due("placed(1)", last.placed(1), 8);
        Due.due("placed(19)", last.placed(19), 4);
        Due.due("count(9)", last.count(9), 18);
        Due.due("count(11)", last.count(11), 2);
    }

    private static void wordsByNumber() {
        Due.about("Terms 5: W left top n l: for each that is PLACED, by numbers l");
        DrawLabels d = Desks.sheet(100, 16);
        Desks.dots(d, 70, 8, 101, 8, 20, 8);
        d.label(0, 3);
        d.label(1, 1);
        d.label(2, 2);
        d.label(2, 1);
        Due.due("two of four, and the other way round", Desks.drawn(d, 'W'), "W 73 4 3 0\nW 23 4 2 2\nW 11 4 1 3\n");
        DrawLabels none = Desks.sheet(16, 16);
        Desks.dots(none, 8, 8);
        none.label(0, 8);
        Due.due("none is PLACED", Desks.drawn(none, 'W'), "");
    }
}
