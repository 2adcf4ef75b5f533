/** Promises 27, 28, 30, 31, 32 and OCTETS, sentence by sentence: no DRAWING, one without a SCALE, one that is too long. */
public final class BoundaryMarksTest {
    private static final int UNKNOWN = DrawLabels.UNKNOWN, OUTSIDE = DrawLabels.OUTSIDE, NONE = DrawLabels.NONE;
    private static final int LEAST = Integer.MIN_VALUE, MOST = Integer.MAX_VALUE;

    public static void main(String[] args) {
        noScale();
        inPlaceOfTheOneBefore();
        theSameAgain();
        whateverWasDrawnBefore();
        ofAllAsItIsNow();
        sixHundredMarks();
        lostOfEachKind();
        lostEdges();
        lostInTheMiddleOfAnArea();
        lostOfADentedArea();
        lostOfAnAreaThatIsCut();
        lostIsNotTold();
        lostCountsAsDrawn();
        lostLabel();
        lostNoMore();
        markNumbers();
        markFewerNumbers();
        markMayBeAsARefusal();
        octetNumbers();
        octetsOfNumbers();
        digestWraps();
        countNumbers();
        countOfTheDrawing();
        Due.end();
    }

    private static void noScale() {
        Due.about("27: 6 (no SCALE: MARK F alone; it answers 0, and that is THE DRAWING; all LABELS are OUT)");
        DrawLabels d = Desks.eachKind();
        d.label(0, 1);
        d.label(7, 1);
        d.grid(1);
        d.solid(0, 1);
        Due.due("draw() with a SCALE", d.draw() > 200 ? 1 : 0, 1);
        Due.due("code()", d.code(), 0);
        int[][] windows = {{10, 10, 0, 100}, {0, 100, 10, 10}, {10, 10, 10, 10}};
        for (int[] w : windows) {
            d.window(w[0], w[1], w[2], w[3]);
            Due.due("draw()", d.draw(), 0);
            Due.due("code()", d.code(), 6);
            Due.due("OCTETS", Due.text(d), "F 100 100\n");
            Due.due("digest()", d.digest(), fold("F 100 100\n"));
            int[] due = {1, 0, 10, 2, 0, 0};
            for (int what = 6; what <= 11; what++) {
                Due.due("count(" + what + ")", d.count(what), due[what - 6]);
            }
            Due.due("mark(0, 0)", d.mark(0, 0), 'F');
            Due.due("mark(1, 0)", d.mark(1, 0), UNKNOWN);
            Due.due("placed(0)", d.placed(0), 8);
            Due.due("placed(1)", d.placed(1), 8);
            d.window(0, 100, 0, 100);
            d.draw();
            Due.due("code() with a SCALE again", d.code(), 0);
        }
    }

    private static void inPlaceOfTheOneBefore() {
        Due.about("27: in place of the one before");
        DrawLabels d = Desks.eachKind();
        d.label(0, 8);
        d.draw();
        d.label(1, 1);
        for (int kind = 0; kind < 8; kind++) {
            d.hide(kind, true);
        }
        Due.due("draw()", d.draw(), 1);
        Due.due("OCTETS", Due.text(d), "F 100 100\n");
        Due.due("mark(1, 0)", d.mark(1, 0), UNKNOWN);
        Due.due("placed(0)", d.placed(0), 8);
        Due.due("placed(1)", d.placed(1), 8);
        Due.due("count(9)", d.count(9), 2);
        Due.due("count(10)", d.count(10), 0);
    }

    private static void theSameAgain() {
        Due.about("27: draw() again, with nothing changed");
        DrawLabels d = Desks.sheet(40, 30);
        Desks.dots(d, 20, 20, 30, 10, 10, 15);
        d.object(1, 0, 1, 0);
        d.label(0, 1);
        d.label(0, 8);
        d.label(1, 2);
        d.label(2, 8);
        d.label(3, 1);
        d.draw();
        String first = Due.text(d);
        Due.due("two are too wide", d.count(9), 2);
        for (int k = 0; k < 4; k++) {
            d.draw();
            Due.due("the DRAWING", Due.text(d), first);
        }
        d.window(3, 3, 3, 3);
        d.draw();
        d.window(0, 40, 0, 30);
        d.draw();
        Due.due("behind one without a SCALE", Due.text(d), first);
    }

    /** Six LABELS that have no room for all; at THE TICK 1 the DOT of the last two is outside. */
    private static DrawLabels crowd() {
        DrawLabels d = new DrawLabels();
        Desks.dots(d, 10, 15, 20, 15, 30, 10, 50, 15);
        d.move(0, 10, 0);
        d.move(3, 70, 0);
        int[][] labels = {{0, 3}, {1, 8}, {2, 1}, {2, 4}, {3, 8}, {3, 2}};
        for (int[] l : labels) {
            d.label(l[0], l[1]);
        }
        return d;
    }

    /** Three LABELS that have room on PLACE 0, or, where PIECES are seen, on PLACE 4; at THE TICK 1 the last DOT is outside. */
    private static DrawLabels roomy() {
        DrawLabels d = new DrawLabels();
        Desks.dots(d, 15, 15, 35, 15, 51, 15);
        d.move(2, 70, 0);
        for (int o = 0; o < 3; o++) {
            d.label(o, 1);
        }
        int[] strokes = {19, 20, 39, 40, 55, 56};
        for (int x : strokes) {
            int p = d.point(x, 0);
            d.point(x, 30);
            d.object(1, p, p + 1, 0);
        }
        return d;
    }

    private static final int STATES = 8;

    private static void putInto(DrawLabels d, int state) {
        d.sheet(60, 30, 0);
        d.window(0, 60, 0, 30);
        d.grid(state == 1 ? 3 : 0);
        d.tick(state == 3 ? 1 : 0);
        d.hide(0, state == 4);
        d.hide(1, state != 7);
        if (state == 2) {
            d.sheet(16, 16, 0);
        } else if (state == 5) {
            d.sheet(400, 400, 0);
        } else if (state == 6) {
            d.window(3, 3, 3, 3);
        }
    }

    private static String told(DrawLabels d) {
        return d.draw() + " " + d.count(9) + " " + d.count(10) + " " + d.count(11) + "\n" + Due.text(d);
    }

    private static void whateverWasDrawnBefore() {
        Due.about("27: A DRAWING of all as it is now, in place of the one before");
        for (int desk = 0; desk < 2; desk++) {
            String[] alone = new String[STATES];
            for (int state = 0; state < STATES; state++) {
                DrawLabels d = desk == 0 ? crowd() : roomy();
                putInto(d, state);
                alone[state] = told(d);
            }
            for (int before = 0; before < STATES; before++) {
                for (int state = 0; state < STATES; state++) {
                    DrawLabels d = desk == 0 ? crowd() : roomy();
                    putInto(d, before);
                    d.draw();
                    putInto(d, state);
                    Due.due("drawing " + state + " behind " + before, told(d), alone[state]);
                }
            }
        }
    }

    private static void ofAllAsItIsNow() {
        Due.about("27: A DRAWING of all as it is now");
        DrawLabels d = Desks.points(10, 20);
        d.object(0, 0, 0, 0);
        d.move(0, 1, 2);
        d.tick(5);
        d.draw();
        d.tick(0);
        d.style(0, 1);
        d.sheet(50, 50, 0);
        d.hide(0, true);
        Due.due("it stays", Due.text(d), "F 100 100\nD 15 70 0\n");
        d.hide(0, false);
        d.draw();
        Due.due("the next one", Due.text(d), "F 50 50\nD 5 40 1\n");
    }

    /** A desk whose GRID has x and y STROKES. */
    private static DrawLabels gridOf(int x, int y) {
        DrawLabels d = new DrawLabels();
        d.sheet(400, 400, 0);
        d.window(0, x - 1, 0, y - 1);
        d.grid(1);
        return d;
    }

    private static void told(DrawLabels d, int marks, int lost) {
        Due.due("draw()", d.draw(), marks);
        Due.due("count(6)", d.count(6), marks);
        Due.due("count(7)", d.count(7), lost);
        Due.due("the last MARK", d.mark(marks - 1, 0) == UNKNOWN ? 1 : 0, 0);
        Due.due("behind it", d.mark(marks, 0), UNKNOWN);
    }

    private static void sixHundredMarks() {
        Due.about("Terms 4: 600 at most; those behind are LOST");
        told(gridOf(299, 299), 599, 0);
        told(gridOf(299, 300), 600, 0);
        told(gridOf(300, 300), 600, 1);
        Due.about("Terms 4: 600 at most, with STROKES of one way alone");
        told(gridOf(597, 2), 600, 0);
        told(gridOf(598, 2), 600, 1);
        told(gridOf(599, 2), 600, 2);
        told(gridOf(600, 2), 600, 3);
        told(gridOf(2, 597), 600, 0);
        told(gridOf(2, 598), 600, 1);
        Due.about("Terms 4: LOST: counted");
        told(gridOf(40001, 40001), 600, 79403);
        DrawLabels most = new DrawLabels();
        most.window(-40000, 40000, -40000, 40000);
        most.grid(1);
        told(most, 600, 159403);
    }

    private static void lostOfEachKind() {
        Due.about("Terms 4: LOST: counted, one of each KIND");
        for (int kind = 0; kind < 8; kind++) {
            DrawLabels d = gridOf(299, 300);
            Desks.add(d, 10, 10, 13, 14, 20, 10);
            if (kind == 7) {
                Desks.area(d, 0, 1, 2);
            } else {
                d.object(kind, 0, 1, kind == 6 ? 1 : 2);
            }
            told(d, 600, 1);
            d.hide(kind, true);
            told(d, 600, 0);
            d.window(0, 298, 0, 298);
            d.hide(kind, false);
            told(d, 600, 0);
            Due.due("MARK 599 of KIND " + kind, d.mark(599, 0), "DSSSCATS".charAt(kind));
        }
    }

    private static void lostEdges() {
        Due.about("Terms 4: LOST: counted, EDGES");
        DrawLabels d = gridOf(299, 299);
        d.point(10, 10);
        d.solid(0, 1);
        d.vertex(0, 0, 0, 0);
        d.vertex(0, 20, 0, 0);
        d.vertex(0, 0, 20, 0);
        d.face(0, 3, 0x210);
        told(d, 600, 2);
        Due.due("the first EDGE is MARK 599", d.mark(599, 5), 0);
        d.hide(8, true);
        told(d, 599, 0);
    }

    private static void lostInTheMiddleOfAnArea() {
        Due.about("Terms 4: LOST: counted, STROKES of an AREA");
        int[][] cases = {{5990, 0}, {5991, 1}, {6000, 1}, {6001, 2}, {19990, 1400}};
        for (int[] c : cases) {
            DrawLabels d = new DrawLabels();
            d.window(0, 20000, 0, 20000);
            Desks.areaAt(d, 100, 0, 200, 0, 200, c[0], 100, c[0]);
            told(d, 600, c[1]);
            d.window(150, 20000, 0, 20000);
            told(d, 600, c[1]);
            d.window(0, 150, 0, 20000);
            told(d, 600, c[1]);
            d.window(0, 20000, 10, 20000);
            told(d, Math.min(600, 599 + c[1]), Math.max(0, c[1] - 1));
        }
        DrawLabels high = new DrawLabels();
        high.window(0, 20000, 0, 5990);
        Desks.areaAt(high, 100, 0, 200, 0, 200, 20000, 100, 20000);
        told(high, 600, 1);
        high.window(0, 20000, 0, 5989);
        told(high, 600, 0);
    }

    private static void lostOfADentedArea() {
        Due.about("Terms 4: LOST: counted, two STROKES of an AREA on a line");
        DrawLabels d = new DrawLabels();
        d.window(0, 5000, 0, 5000);
        Desks.areaAt(d, 0, 0, 100, 0, 100, 5000, 90, 5000, 90, 10, 10, 10, 10, 5000, 0, 5000);
        // one at 0, two each at 10 .. 4990
        told(d, 600, 1 + 1 + 2 * 499 - 600);
        Due.due("MARK 598 is the left one of two", d.mark(598, 1), 0);
        Due.due("MARK 599 is the right one of two", d.mark(599, 1), 2);
        d.window(0, 5000, 0, 4000);
        told(d, 600, 1 + 1 + 2 * 400 - 600);
        d.window(90, 5000, 0, 5000);
        // the left one is out of THE WINDOW
        told(d, 501, 0);
        d.window(10, 5000, 0, 5000);
        told(d, 600, 1 + 1 + 2 * 499 - 600);
    }

    private static void lostOfAnAreaThatIsCut() {
        Due.about("Terms 4: LOST: counted, STROKES of an AREA that THE WINDOW HAS in part");
        DrawLabels leaning = new DrawLabels();
        leaning.window(0, 8000, 0, 10000);
        Desks.areaAt(leaning, 0, 0, 100, 0, 10100, 10000, 10000, 10000);
        // y .. y + 100: from 8010 on that is right of THE WINDOW
        told(leaning, 600, 1 + 801 - 600);
        DrawLabels tip = new DrawLabels();
        tip.window(0, 8000, 0, 12000);
        Desks.areaAt(tip, -100, 12000, 100, 0, 200, 0);
        // its right side is at 0 where y is 8000
        told(tip, 600, 1 + 801 - 600);
        DrawLabels within = new DrawLabels();
        within.window(0, 8000, 0, 8000);
        Desks.areaAt(within, 100, 100, 200, 50, 250, 7000, 120, 6500);
        // 50 .. 6990
        told(within, 600, 1 + 695 - 600);
        DrawLabels turned = new DrawLabels();
        turned.window(0, 8000, 0, 8000);
        Desks.areaAt(turned, 120, 6500, 100, 100, 200, 50, 250, 7000);
        told(turned, 600, 1 + 695 - 600);
    }

    private static void lostIsNotTold() {
        Due.about("Terms 4: nothing else is told of them");
        DrawLabels d = gridOf(299, 300);
        d.draw();
        int octets = d.count(8);
        int digest = d.digest();
        Desks.dots(d, 10, 10);
        told(d, 600, 1);
        Due.due("count(8)", d.count(8), octets);
        Due.due("digest()", d.digest(), digest);
        Due.due("octet behind the last", d.octet(octets), NONE);
        Due.due("mark(600, 0)", d.mark(600, 0), UNKNOWN);
    }

    private static void lostCountsAsDrawn() {
        Due.about("Terms 4: they count as drawn");
        DrawLabels d = gridOf(400, 400);
        Desks.dots(d, 200, 200);
        d.label(0, 1);
        Due.due("draw()", d.draw(), 600);
        Due.due("the LABEL of a LOST DOT is placed", d.placed(0) < 8 ? 1 : 0, 1);
        Due.due("count(9)", d.count(9), 0);
        Due.about("Terms 5: (MARKS that are LOST do not count here.)");
        DrawLabels few = gridOf(299, 299);
        Desks.dots(few, 200, 200);
        few.label(0, 1);
        told(few, 600, 1);
        DrawLabels more = gridOf(299, 299);
        // these are LOST; each of the eight PLACES has one of them
        Desks.dots(more, 200, 200, 204, 200, 204, 205, 200, 206, 196, 205, 196, 200, 196, 196, 200, 195, 204, 196);
        more.label(0, 1);
        told(more, 600, 9);
        Due.due("placed(0) as without them", more.placed(0), few.placed(0));
        Due.due("count(10) as without them", more.count(10), few.count(10));
        int dear = more.count(10);
        more.grid(0);
        more.draw();
        Due.due("told, they count", more.count(10) >= 10 ? 1 : 0, 1);
        Due.due("and so did THE GRID", dear > 10 ? 1 : 0, 1);
    }

    private static void lostLabel() {
        Due.about("Terms 4: a LABEL whose W is LOST is PLACED");
        DrawLabels d = gridOf(299, 299);
        Desks.dots(d, 200, 200);
        d.label(0, 1);
        told(d, 600, 1);
        Due.due("the DOT is the last one", d.mark(599, 0), 'D');
        Due.due("placed(0)", d.placed(0) < 8 ? 1 : 0, 1);
        Due.due("count(9)", d.count(9), 0);
        DrawLabels last = gridOf(299, 298);
        Desks.dots(last, 200, 200);
        last.label(0, 1);
        told(last, 600, 0);
        Due.due("W is the last one", last.mark(599, 0), 'W');
    }

    private static void lostNoMore() {
        Due.about("27: LOST of THE DRAWING, not of the one before");
        DrawLabels d = gridOf(300, 300);
        told(d, 600, 1);
        told(d, 600, 1);
        d.grid(0);
        told(d, 1, 0);
        d.grid(1);
        d.draw();
        d.window(5, 5, 0, 9);
        Due.due("draw() without a SCALE", d.draw(), 0);
        Due.due("count(7)", d.count(7), 0);
    }

    private static void markNumbers() {
        Due.about("28: what = 0 its letter, 1 .. 6 its numbers. UNKNOWN, OUTSIDE");
        DrawLabels d = Desks.points(7, 8);
        d.object(0, 0, 0, 0);
        int[] wrong = {-1, 7, LEAST, MOST};
        Due.due("mark(0, 0) without a DRAWING", d.mark(0, 0), UNKNOWN);
        Due.due("mark(0, 7) without a DRAWING", d.mark(0, 7), UNKNOWN);
        d.draw();
        for (int n : wrong) {
            Due.due("mark(0, " + n + ")", d.mark(0, n), OUTSIDE);
            Due.due("mark(1, " + n + ")", d.mark(1, n), OUTSIDE);
            Due.due("UNKNOWN is ahead of OUTSIDE", d.mark(2, n), UNKNOWN);
        }
        int[] noMarks = {-1, 2, 600, LEAST, MOST};
        for (int n : noMarks) {
            Due.due("mark(" + n + ", 0)", d.mark(n, 0), UNKNOWN);
        }
        Due.due("mark(1, 0)", d.mark(1, 0), 'D');
        Due.due("mark(1, 1)", d.mark(1, 1), 7);
        Due.due("mark(1, 2)", d.mark(1, 2), 92);
    }

    private static void markFewerNumbers() {
        Due.about("28: (0: it has fewer)");
        DrawLabels d = Desks.points(90, 90, 93, 94, 99, 90);
        d.grid(1);
        d.window(60, 100, 60, 100);
        d.draw();
        d.grid(0);
        d.object(0, 0, 0, 0);
        d.object(6, 0, 1, 3);
        d.object(4, 0, 1, 0);
        d.object(5, 0, 1, 2);
        d.object(1, 0, 1, 0);
        for (int o = 0; o < 5; o++) {
            d.style(o, 2);
        }
        d.label(0, 1);
        d.draw();
        // 100 / 40: X = 2.5 (x - 60), Y = 100 - 2.5 (y - 60)
        int[][] due = {{'F', 100, 100, 0, 0, 0, 0}, {'D', 75, 25, 2, 0, 0, 0}, {'T', 79, 20, 3, 1, 0, 0}, {'C', 75, 25, 13, 0, 2, 0},
            {'A', 83, 15, 5, 7, 2, 0}, {'S', 75, 25, 83, 15, 2, 0}, {'W', 72, 13, 1, 0, 0, 0}};
        Due.due("count(6)", d.count(6), due.length);
        for (int k = 0; k < due.length; k++) {
            for (int what = 0; what < 7; what++) {
                Due.due("mark(" + k + ", " + what + ")", d.mark(k, what), due[k][what]);
            }
        }
    }

    private static void markMayBeAsARefusal() {
        Due.about("28: (What is told may be as a refusal is.)");
        DrawLabels d = Desks.points(-9091, 1, 1, 1);
        d.sheet(22, 22, 0);
        d.window(0, 2, 0, 2);
        d.object(4, 0, 1, 0);
        Due.due("draw()", d.draw(), 2);
        Due.due("X is 11 x", d.mark(1, 1), -100001);
        Due.due("its letter", d.mark(1, 0), 'C');
    }

    private static void octetNumbers() {
        Due.about("30: Octet k of THE DRAWING; NONE");
        DrawLabels d = new DrawLabels();
        int[] any = {0, -1, 1, LEAST, MOST};
        for (int n : any) {
            Due.due("octet(" + n + ") without a DRAWING", d.octet(n), NONE);
        }
        d.draw();
        int[] none = {-1, 10, 11, LEAST, MOST};
        for (int n : none) {
            Due.due("octet(" + n + ")", d.octet(n), NONE);
        }
        String due = "F 100 100\n";
        for (int k = 0; k < 10; k++) {
            Due.due("octet(" + k + ")", d.octet(k), due.charAt(k));
        }
        DrawLabels two = new DrawLabels();
        Desks.dots(two, 0, 0);
        two.draw();
        Due.due("the last one of F", two.octet(9), 10);
        Due.due("the first one of D", two.octet(10), 'D');
        Due.due("the last one of D", two.octet(19), 10);
        Due.due("behind it", two.octet(20), NONE);
    }

    private static void octetsOfNumbers() {
        Due.about("Terms 6: each number behind a blank (32), with - in front if it is below 0, then 10");
        DrawLabels d = Desks.points(-20000, 20000, 0, 100, -9, -1, 0, 0, -10, 110, 0, 105);
        d.sheet(16, 16, 0);
        d.window(0, 16, 0, 16);
        d.object(4, 0, 1, 0);
        d.object(4, 2, 3, 0);
        d.object(4, 4, 5, 0);
        d.object(0, 3, 0, 0);
        d.style(1, 2);
        // the roots of 20000 * 20000 + 19900 * 19900 = 796010000 (28213.65), 82, 125: the third one is too small
        Due.due("numbers", Desks.drawn(d), "C -9 17 9 1 2\nD 0 16 0\n");
        DrawLabels far = Desks.points(-20000, -20000, 1, 1);
        far.window(0, 1, 0, 1);
        far.object(4, 0, 1, 0);
        far.sheet(400, 400, 0);
        far.draw();
        // 400 times the root of 2 * 20001 * 20001
        Due.due("eight digits", Due.text(far), "F 400 400\nC -8000000 8000400 11314274 1 0\n");
        Due.due("count(8)", far.count(8), "F 400 400\nC -8000000 8000400 11314274 1 0\n".length());
    }

    private static int fold(String text) {
        int d = 17;
        for (int k = 0; k < text.length(); k++) {
            d = 31 * d + text.charAt(k);
        }
        return d;
    }

    private static void digestWraps() {
        Due.about("31: d is 17; for each OCTET of THE DRAWING: 31 d and it (wrapping)");
        DrawLabels d = new DrawLabels();
        Due.due("without a DRAWING", d.digest(), 17);
        d.draw();
        Due.due("of 10 OCTETS", d.digest(), 1490677363);
        Due.due("again", d.digest(), 1490677363);
        d.sheet(99, 99, 0);
        Due.due("of the same DRAWING", d.digest(), 1490677363);
        d.draw();
        Due.due("of another one", d.digest(), fold("F 99 99\n"));
        d.grid(100);
        d.draw();
        Due.due("of a longer one", d.digest(), fold("F 99 99\nS 0 99 0 0 1\nS 99 99 99 0 1\nS 0 99 99 99 1\nS 0 0 99 0 1\n"));
    }

    private static void countNumbers() {
        Due.about("32: OUTSIDE");
        DrawLabels d = new DrawLabels();
        int[] wrong = {-1, 12, LEAST, MOST};
        for (int n : wrong) {
            Due.due("count(" + n + ")", d.count(n), OUTSIDE);
        }
        Due.about("32: What = 0 POINTS, 1 OBJECTS, 2 SOLIDS, 3 LABELS, 4 THE TICK, 5 THE VIEW");
        Desks.add(d, 1, 1, 2, 2, 3, 3, 4, 4, 5, 5, 6, 6);
        for (int k = 0; k < 5; k++) {
            d.object(0, k, 0, 0);
        }
        for (int k = 0; k < 3; k++) {
            d.solid(k, 1);
        }
        d.label(0, 1);
        d.label(1, 1);
        d.tick(7);
        d.view(4);
        int[] due = {6, 5, 3, 2, 7, 4, 0, 0, 0, 0, 0, 0};
        for (int what = 0; what < 12; what++) {
            Due.due("count(" + what + ")", d.count(what), due[what]);
        }
    }

    private static void countOfTheDrawing() {
        Due.about("32: of THE DRAWING (0 without one): 6 MARKS, 7 LOST, 8 OCTETS, 9 OUT, 10 COSTS, 11 ROUNDS");
        DrawLabels d = Desks.sheet(40, 40);
        Desks.dots(d, 20, 20, 50, 50);
        d.label(1, 1);
        d.label(0, 1);
        d.label(0, 1);
        for (int what = 6; what < 12; what++) {
            Due.due("count(" + what + ") without one", d.count(what), 0);
        }
        d.draw();
        // F, D, and two W on PLACES 0 and 2
        String text = "F 40 40\nD 20 20 0\nW 23 16 1 1\nW 17 8 1 2\n";
        Due.due("OCTETS", Due.text(d), text);
        int[] due = {4, 0, text.length(), 1, 2, 0};
        for (int what = 6; what < 12; what++) {
            Due.due("count(" + what + ")", d.count(what), due[what - 6]);
        }
        for (int l = 0; l < 6; l++) {
            d.label(0, 8);
        }
        d.hide(0, true);
        d.grid(1);
        for (int what = 6; what < 12; what++) {
            Due.due("it stays: count(" + what + ")", d.count(what), due[what - 6]);
        }
        d.hide(0, false);
        d.grid(0);
        d.draw();
        Due.due("count(9): 48 wide is too wide, and DOT 1 is outside", d.count(9), 7);
        Due.due("count(10)", d.count(10), 2);
        Due.due("count(11): eight LABELS have a MARK", d.count(11), 2);
        d.hide(0, true);
        d.draw();
        Due.due("count(11): none has", d.count(11), 0);
        d.hide(0, false);
        d.draw();
        Due.due("count(11) again", d.count(11), 2);
        d.window(0, 0, 0, 40);
        d.draw();
        Due.due("count(11) without a SCALE", d.count(11), 0);
        Due.due("count(9) without a SCALE", d.count(9), 9);
    }
}
