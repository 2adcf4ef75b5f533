/** Promises 26, 29 and the terms of labels: anchors, places, costs, the best of all ways, rounds. */
public final class LabelsTest {
    private static final int UNKNOWN = DrawLabels.UNKNOWN, OUTSIDE = DrawLabels.OUTSIDE, FULL = DrawLabels.FULL, NONE = DrawLabels.NONE;

    public static void main(String[] args) {
        label();
        anchors();
        areaAnchor();
        eightPlaces();
        openAtTheEdges();
        costOfDots();
        costOfStrokes();
        strokeThroughCorner();
        out();
        fewestOutThenCostThenRow();
        neverMeet();
        sixOrSeven();
        roundsKeepNumbers();
        Due.end();
    }

    private static DrawLabels dotAt(int x, int y) {
        DrawLabels d = new DrawLabels();
        d.point(x, y);
        d.object(0, 0, 0, 0);
        return d;
    }

    private static String words(DrawLabels d) {
        StringBuilder all = new StringBuilder();
        for (String line : Due.text(d).split("\n")) {
            if (line.startsWith("W")) {
                all.append(line).append('\n');
            }
        }
        return all.toString();
    }

    private static void label() {
        DrawLabels d = dotAt(50, 50);
        Due.due("label(1, 9)", d.label(1, 9), UNKNOWN);
        Due.due("label(-1, 1)", d.label(-1, 1), UNKNOWN);
        Due.due("label(0, 0)", d.label(0, 0), OUTSIDE);
        Due.due("label(0, 9)", d.label(0, 9), OUTSIDE);
        Due.due("placed(0) of none", d.placed(0), UNKNOWN);
        for (int l = 0; l < 20; l++) {
            Due.due("label " + l, d.label(0, 1 + l % 8), l);
        }
        Due.due("label 20", d.label(0, 1), FULL);
        Due.due("outside ahead of full", d.label(0, 9), OUTSIDE);
        Due.due("count(3)", d.count(3), 20);
        Due.due("placed without a drawing", d.placed(19), NONE);
        Due.due("placed(20)", d.placed(20), UNKNOWN);
        Due.due("placed(-1)", d.placed(-1), UNKNOWN);
    }

    private static void anchors() {
        int[][] objects = {{0, 0, 0, 0}, {1, 0, 1, 0}, {4, 1, 0, 0}, {5, 0, 1, 2}, {6, 0, 1, 2}};
        String[] due = {
            "W 103 296 1 0\n", // of the DOT at 100, 300
            "W 112 273 1 0\n", // of the PIECE's 115.5, 285, down: PLACES 0 and 1 meet it, 2 does not
            "W 134 223 1 0\n", // of the CIRCLE's top: 131, 270 - 43
            "W 134 266 1 0\n", // of the ANGLE's b: 131, 270
            "W 119 281 1 0\n"  // of the TICKS' middle: 115.5, 115, so of 116, 285
        };
        for (int k = 0; k < objects.length; k++) {
            DrawLabels d = new DrawLabels();
            d.sheet(400, 400, 0);
            d.window(0, 400, 0, 400);
            d.point(100, 100);
            d.point(131, 130);
            d.point(180, 100);
            d.object(objects[k][0], objects[k][1], objects[k][2], objects[k][3]);
            d.label(0, 1);
            d.draw();
            Due.due("the label of KIND " + objects[k][0], words(d), due[k]);
        }
        DrawLabels line = new DrawLabels();
        line.point(-20, 30);
        line.point(80, 30);
        line.object(2, 0, 1, 0);
        line.object(3, 1, 0, 0);
        line.label(0, 1);
        line.label(1, 1);
        line.draw();
        // of the LINE 50, 70; of the RAY (80 + 0) / 2, 70: PLACE 0 meets both strokes, PLACE 1 none
        Due.due("of what the window has", words(line), "W 52 59 1 0\nW 42 59 1 1\n");
    }

    private static void areaAnchor() {
        DrawLabels d = new DrawLabels();
        for (int[] p : new int[][] {{10, 15}, {61, 15}, {60, 69}, {10, 17}}) {
            d.corner(d.point(p[0], p[1]));
        }
        d.area();
        d.hatch(1000);
        d.label(0, 1);
        d.draw();
        // (10 + 61 + 60 + 10) / 4 = 35.25; (85 + 85 + 31 + 83) / 4 = 71; it has no STROKE at all
        Due.due("an AREA without a MARK", Due.text(d), "F 100 100\nW 38 67 1 0\n");
        d.window(0, 50, 0, 50);
        d.draw();
        // X 20, 122, 120, 20: 70.5 down; Y 70, 70, -38, 66: 42
        Due.due("its POINTS outside of the window count", words(d), "W 73 38 1 0\n");
        d.window(60, 160, -100, 0);
        d.draw();
        // X -50, 1, 0, -50: -24.75 down to -25; Y -15, -15, -69, -17: -29
        Due.due("rounded down below 0", d.placed(0), 8);
        d.hide(7, true);
        d.window(0, 100, 0, 100);
        d.draw();
        Due.due("hidden by KIND", d.placed(0), 8);
        Due.due("count(9)", d.count(9), 1);
    }

    private static void eightPlaces() {
        int[][] due = {{53, 46}, {52, 39}, {44, 38}, {36, 39}, {35, 46}, {36, 52}, {44, 53}, {52, 52}};
        for (int place = 0; place < 8; place++) {
            DrawLabels d = dotAt(50, 50);
            d.label(0, 2);
            // a dot in each of the other boxes, clear of this one
            int dots = 1;
            for (int k = 0; k < 8; k++) {
                int[] inside = {due[k][0] + 6, due[k][1] + 4};
                boolean taken = inside[0] >= due[place][0] && inside[0] <= due[place][0] + 11
                    && inside[1] >= due[place][1] && inside[1] <= due[place][1] + 8;
                if (k != place && !taken) {
                    d.point(inside[0], 100 - inside[1]);
                    d.object(0, dots, 0, 0);
                    dots++;
                }
            }
            d.draw();
            Due.due("place", d.placed(0), place);
            Due.due("its box", words(d), "W " + due[place][0] + " " + due[place][1] + " 2 0\n");
            Due.due("its cost", d.count(10), place);
        }
    }

    private static void openAtTheEdges() {
        // a DOT's x, y, how many letters, the PLACE that is due
        int[][] cases = {
            {91, 50, 1, 0}, // 94 .. 99 is open
            {92, 50, 1, 1}, // 95 .. 100 is not; 94 .. 99 is
            {93, 50, 1, 2}, // nor is 95 .. 100; 90 .. 95 is
            {50, 5, 1, 0},  // 91 .. 99 is open
            {50, 4, 1, 1},  // 92 .. 100 is not
            {50, 96, 1, 0}, // 0 .. 8 is open
            {50, 97, 1, 5}, // -1 .. 7 is not, nor are 1 to 4
            {99, 97, 8, 5}, // 48 wide: left of it
        };
        for (int[] c : cases) {
            DrawLabels d = dotAt(c[0], c[1]);
            d.label(0, c[2]);
            d.draw();
            Due.due("a label of " + c[2] + " letters at " + c[0] + ", " + c[1], d.placed(0), c[3]);
        }
    }

    private static void costOfDots() {
        int[][] inside = {{53, 46}, {58, 46}, {53, 54}, {58, 54}};
        int[][] outside = {{52, 46}, {59, 50}, {58, 45}, {58, 55}};
        for (int k = 0; k < 4; k++) {
            DrawLabels d = dotAt(50, 50);
            d.label(0, 1);
            d.point(inside[k][0], 100 - inside[k][1]);
            d.object(0, 1, 0, 0);
            d.draw();
            Due.due("a dot on the box's corner", d.placed(0) != 0 ? 1 : 0, 1);
            d = dotAt(50, 50);
            d.label(0, 1);
            d.point(outside[k][0], 100 - outside[k][1]);
            d.object(0, 1, 0, 0);
            d.draw();
            Due.due("a dot beside it", d.placed(0), 0);
        }
        DrawLabels d = dotAt(8, 92);
        d.sheet(17, 16, 0);
        d.window(0, 17, 0, 16);
        d.point(8, 8);
        d.object(0, 1, 0, 0);
        d.label(1, 1);
        d.point(12, 8);
        d.object(0, 2, 0, 0);
        d.object(0, 2, 0, 0);
        d.draw();
        // only PLACE 0 is within the sheet's height; both DOTS lie on it
        Due.due("ten for each dot", d.count(10), 20);
        Due.due("there is no other", d.placed(0), 0);
    }

    private static void costOfStrokes() {
        DrawLabels d = new DrawLabels();
        d.point(0, 50);
        d.point(100, 50);
        d.point(50, 50);
        d.object(0, 2, 0, 0);
        d.object(1, 0, 1, 0);
        d.label(0, 1);
        d.draw();
        Due.due("1 is cheaper than 0 and 4", d.placed(0), 1);
        Due.due("count(10)", d.count(10), 1);
        d.grid(1);
        d.draw();
        // each box meets 9 and 6 strokes of the grid, but the lower ones (their strokes are told, too)
        Due.due("with a grid", d.count(10), 1 + 15 * 4);
        DrawLabels one = new DrawLabels();
        one.sheet(16, 16, 0);
        one.window(0, 16, 0, 16);
        one.point(7, 8);
        one.object(0, 0, 0, 0);
        one.label(0, 1);
        one.point(15, 8);
        one.point(16, 8);
        one.object(1, 1, 2, 0);
        one.object(1, 1, 2, 0);
        one.object(1, 2, 1, 0);
        one.draw();
        Due.due("4 for each stroke that touches its side", one.count(10), 12);
    }

    private static void strokeThroughCorner() {
        // PLACE 0 of 50, 50 takes 53 .. 58, 46 .. 54
        int[][] touching = {{49, 50, 57, 42}, {56, 56, 60, 52}, {54, 50, 55, 51}, {50, 50, 53, 50}, {58, 54, 70, 90}};
        int[][] missing = {{50, 48, 57, 41}, {57, 56, 60, 53}, {59, 0, 59, 100}, {52, 0, 52, 100}, {0, 55, 100, 55}, {0, 45, 100, 45}};
        for (int[] s : touching) {
            Due.due("a stroke that it takes a place of", labelBeside(s) != 0 ? 1 : 0, 1);
        }
        for (int[] s : missing) {
            Due.due("a stroke that it does not", labelBeside(s), 0);
        }
    }

    /** PLACE of a LABEL of a DOT at 50, 50 with a PIECE from s0, s1 to s2, s3 on the sheet. */
    private static int labelBeside(int[] s) {
        DrawLabels d = dotAt(50, 50);
        d.point(s[0], 100 - s[1]);
        d.point(s[2], 100 - s[3]);
        d.object(1, 1, 2, 0);
        d.label(0, 1);
        d.draw();
        return d.placed(0);
    }

    private static void out() {
        DrawLabels d = dotAt(150, 50);
        d.point(50, 50);
        d.object(0, 1, 0, 0);
        d.label(0, 1);
        d.label(1, 1);
        d.draw();
        Due.due("its OBJECT has no MARK", d.placed(0), 8);
        Due.due("the other one", d.placed(1), 0);
        Due.due("count(9)", d.count(9), 1);
        Due.due("W tells its number", words(d), "W 53 46 1 1\n");
        d.object(1, 1, 1, 0);
        d.label(2, 1);
        d.draw();
        Due.due("a fallen one", d.placed(2), 8);
        d.sheet(16, 16, 0);
        d.label(1, 8);
        d.draw();
        // the DOT is at 8, 8 now, and a box needs 9 beside it
        Due.due("no PLACE is open", d.placed(3), 8);
        Due.due("nor for one letter", d.placed(1), 8);
        Due.due("count(9)", d.count(9), 4);
    }

    private static void fewestOutThenCostThenRow() {
        DrawLabels d = new DrawLabels();
        d.sheet(22, 16, 0);
        d.window(0, 22, 0, 16);
        d.point(7, 8);
        d.point(13, 8);
        d.object(0, 0, 0, 0);
        d.object(0, 1, 0, 0);
        d.label(0, 1);
        d.label(1, 1);
        d.draw();
        // 0 on its PLACE 0 (10 .. 15) meets DOT 1 and costs 10, and has no room for PLACE 4; 1 on 0 (16 .. 21): nothing
        Due.due("both are placed", words(d), "W 10 4 1 0\nW 16 4 1 1\n");
        Due.due("count(10)", d.count(10), 10);
        DrawLabels same = dotAt(50, 50);
        same.label(0, 1);
        same.label(0, 1);
        same.draw();
        // 0 and 2 do not meet (53 .. 58 and 47 .. 52), nor do 2 and 0: the least row
        Due.due("the least sum", same.count(10), 2);
        Due.due("of these the least row", same.placed(0), 0);
        Due.due("and the other one", same.placed(1), 2);
        same.label(0, 1);
        same.label(0, 1);
        same.draw();
        Due.due("four about one dot", words(same).length() > 0 ? same.count(9) : -1, 0);
        Due.due("their least sum: 0, 2, 4, 6", same.count(10), 12);
        for (int l = 0; l < 4; l++) {
            Due.due("least row", same.placed(l), 2 * l);
        }
    }

    private static void neverMeet() {
        DrawLabels d = dotAt(50, 50);
        for (int l = 0; l < 6; l++) {
            d.label(0, 8);
        }
        d.draw();
        // 48 wide: 1, 3, 5, 7 about the dot are the most; the least row leaves the last two out
        int[] due = {1, 3, 5, 7, 8, 8};
        for (int l = 0; l < 6; l++) {
            Due.due("placed(" + l + ")", d.placed(l), due[l]);
        }
        Due.due("count(9)", d.count(9), 2);
        Due.due("count(10)", d.count(10), 16);
        Due.due("count(11)", d.count(11), 0);
    }

    private static void sixOrSeven() {
        DrawLabels d = new DrawLabels();
        d.sheet(22, 16, 0);
        d.window(0, 22, 0, 16);
        d.point(11, 8);
        d.point(100, 100);
        d.object(0, 0, 0, 0);
        d.object(0, 1, 0, 0);
        for (int l = 0; l < 6; l++) {
            d.label(0, 1);
        }
        d.label(1, 1);
        d.draw();
        Due.due("one without a MARK does not count", d.count(11), 0);
        Due.due("two are placed", d.count(9), 5);
        d.label(0, 1);
        d.draw();
        Due.due("seven go by rounds", d.count(11), 2);
        Due.due("first come", d.placed(0), 0);
        Due.due("first served", d.placed(1), 4);
        Due.due("the rest is out", d.count(9), 6);
    }

    private static void roundsKeepNumbers() {
        DrawLabels d = dotAt(50, 50);
        d.label(0, 8);
        for (int l = 1; l < 7; l++) {
            d.label(0, 1);
        }
        d.draw();
        // 0 does not fit: 53 .. 100; it takes 1: 52 .. 99, 39 .. 47, and of the rest each the cheapest that is free
        int[] due = {1, 3, 5, 7, 8, 8, 8};
        for (int l = 0; l < 7; l++) {
            Due.due("each the cheapest for itself: placed(" + l + ")", d.placed(l), due[l]);
        }
        Due.due("count(11)", d.count(11), 2);
        DrawLabels none = dotAt(50, 50);
        none.sheet(16, 16, 0);
        for (int l = 0; l < 7; l++) {
            none.label(0, 8);
        }
        none.draw();
        Due.due("nothing changed in the first round", none.count(11), 1);
        Due.due("all out", none.count(9), 7);
    }
}
