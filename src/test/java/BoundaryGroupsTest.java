/** Promises 33 to 38, sentence by sentence: CODES, and where GROUPS and their places end. */
public final class BoundaryGroupsTest {
    private static final int UNKNOWN = DrawLabels.UNKNOWN, OUTSIDE = DrawLabels.OUTSIDE, NONE = DrawLabels.NONE;
    private static final int LEAST = Integer.MIN_VALUE, MOST = Integer.MAX_VALUE;

    public static void main(String[] args) {
        codeAtFirst();
        codeStaysWithOtherCalls();
        codeStaysWithRefusals();
        codeZeroIsTold();
        groupNumbers();
        groupKinds();
        groupPlaces();
        groupBelowZero();
        groupInPlaceOfOneBefore();
        putRefused();
        putNoGroup();
        putPlaces();
        putKinds();
        putCodesInOrder();
        putNothing();
        memberNumbers();
        memberNothing();
        memberPlaces();
        paintNumbers();
        paintNoGroup();
        paintAll();
        paintNoPlaces();
        paintStopsAtNothing();
        reachNumbers();
        reachOfOthers();
        reachFarthest();
        Due.end();
    }

    private static void coded(DrawLabels d, String call, long got, long want, int code) {
        Due.due(call, got, want);
        Due.due("code() behind " + call, d.code(), code);
    }

    private static void codeAtFirst() {
        Due.about("33: CODE of the latest call that names CODES (0 at first)");
        DrawLabels d = new DrawLabels();
        Due.due("code()", d.code(), 0);
        Due.due("code() again", d.code(), 0);
    }

    private static void codeStaysWithOtherCalls() {
        Due.about("33: the latest call that names CODES: others leave it");
        DrawLabels d = Desks.eachKind();
        d.label(0, 1);
        d.draw();
        d.solid(0, 1);
        d.group(0, 8, -1);
        d.point(1, 1);
        d.move(0, 1, 1);
        d.tick(0);
        d.at(0, 0);
        d.object(0, 0, 0, 0);
        d.corner(0);
        d.area();
        d.style(0, 0);
        d.hide(0, false);
        d.fallen(0);
        d.measure(7);
        d.window(0, 9, 0, 9);
        d.fit();
        d.side(0);
        d.sheet(90, 90, 0);
        d.grid(0);
        d.hatch(10);
        d.solid(0, 1);
        d.vertex(0, 0, 0, 0);
        d.face(0, 3, 0);
        d.view(0);
        d.edge(0, -1, 0);
        d.label(0, 1);
        d.mark(0, 0);
        d.placed(0);
        d.octet(0);
        d.digest();
        d.count(0);
        Due.due("code()", d.code(), 4);
    }

    private static void codeStaysWithRefusals() {
        Due.about("33: and was not refused");
        DrawLabels d = Desks.eachKind();
        d.group(0, 8, -1);
        d.single(9, 0);
        d.single(0, 3);
        d.group(6, 0, 0);
        d.group(0, 9, 0);
        d.group(0, 0, 65);
        d.put(0, 0, 8);
        d.put(6, 0, 0);
        d.member(6, 0);
        d.paint(6, 0);
        d.paint(0, 3);
        d.reach(8);
        Due.due("code()", d.code(), 4);
    }

    private static void codeZeroIsTold() {
        Due.about("Terms 7: CODES: 0 done");
        for (int call = 0; call < 9; call++) {
            DrawLabels d = Desks.eachKind();
            d.group(0, 8, 1);
            d.put(0, 0, 4);
            d.group(1, 0, -1);
            Due.due("code() ahead", d.code(), 4);
            switch (call) {
                case 0: d.scale(true); break;
                case 1: d.single(0, 0); break;
                case 2: d.single(0, 2); break;
                case 3: d.draw(); break;
                case 4: d.group(1, 0, 0); break;
                case 5: d.put(0, 0, NONE); break;
                case 6: d.member(0, 0); break;
                case 7: d.paint(0, 1); break;
                default: d.reach(4); break;
            }
            Due.due("code() behind call " + call, d.code(), 0);
        }
    }

    private static void groupNumbers() {
        Due.about("34: GROUP g (0 .. 5). OUTSIDE: g");
        DrawLabels d = Desks.eachKind();
        d.reach(0);
        int[] wrong = {-1, 6, LEAST, MOST};
        for (int n : wrong) {
            coded(d, "group(" + n + ", 0, 1)", d.group(n, 0, 1), OUTSIDE, 2);
            coded(d, "OUTSIDE is ahead of CODE 4", d.group(n, 0, -1), OUTSIDE, 2);
        }
        for (int g = 0; g <= 5; g++) {
            coded(d, "group(" + g + ", 8, 2)", d.group(g, 8, g + 1), g + 1, 0);
            coded(d, "put(" + g + ", ..)", d.put(g, g, g), 1, 0);
        }
        for (int g = 0; g <= 5; g++) {
            coded(d, "each has its own: member(" + g + ", ..)", d.member(g, g), g, 0);
            coded(d, "and its own length", d.member(g, g + 1), 0, 3);
        }
    }

    private static void groupKinds() {
        Due.about("34: for a KIND (0 .. 8). OUTSIDE: KIND");
        DrawLabels d = Desks.eachKind();
        d.reach(0);
        int[] wrong = {-1, 9, LEAST, MOST};
        for (int n : wrong) {
            coded(d, "group(0, " + n + ", 1)", d.group(0, n, 1), OUTSIDE, 2);
            coded(d, "OUTSIDE is ahead of CODE 4", d.group(0, n, -1), OUTSIDE, 2);
        }
        for (int kind = 0; kind <= 8; kind++) {
            coded(d, "group(0, " + kind + ", 1)", d.group(0, kind, 1), 1, 0);
        }
    }

    private static void groupPlaces() {
        Due.about("34: OUTSIDE: n above 64");
        DrawLabels d = Desks.eachKind();
        d.reach(0);
        int[] wrong = {65, MOST};
        for (int n : wrong) {
            coded(d, "group(0, 8, " + n + ")", d.group(0, 8, n), OUTSIDE, 2);
        }
        coded(d, "no GROUP yet", d.member(0, 0), 0, 1);
        coded(d, "group(0, 8, 64)", d.group(0, 8, 64), 64, 0);
        coded(d, "the last place", d.put(0, 63, 5), 1, 0);
        coded(d, "behind it", d.put(0, 64, 5), 0, 3);
        coded(d, "member(0, 63)", d.member(0, 63), 5, 0);
        coded(d, "group(5, 8, 64)", d.group(5, 8, 64), 64, 0);
        coded(d, "the last place of the last one", d.put(5, 63, 6), 1, 0);
        coded(d, "member(5, 63)", d.member(5, 63), 6, 0);
        coded(d, "member(0, 63) still", d.member(0, 63), 5, 0);
        coded(d, "group(1, 8, 0): a row of no places", d.group(1, 8, 0), 0, 0);
        coded(d, "it has no place 0", d.put(1, 0, 5), 0, 3);
        coded(d, "nor is anything there", d.member(1, 0), 0, 3);
    }

    private static void groupBelowZero() {
        Due.about("34: CODE 4 (a number of places below 0), and changes nothing");
        DrawLabels d = Desks.eachKind();
        coded(d, "group(0, 8, -1)", d.group(0, 8, -1), 0, 4);
        coded(d, "there is none", d.member(0, 0), 0, 1);
        coded(d, "group(0, 8, MIN)", d.group(0, 8, LEAST), 0, 4);
        d.group(0, 4, 1);
        d.put(0, 0, 4);
        coded(d, "group(0, 8, -1) again", d.group(0, 8, -1), 0, 4);
        coded(d, "what was there stays", d.member(0, 0), 4, 0);
        coded(d, "so does its KIND", d.put(0, 0, 3), 0, 2);
        coded(d, "and its length", d.member(0, 1), 0, 3);
    }

    private static void groupInPlaceOfOneBefore() {
        Due.about("34: in place of one before; each place has nothing at first");
        DrawLabels d = Desks.eachKind();
        d.group(0, 8, 3);
        for (int i = 0; i < 3; i++) {
            d.put(0, i, i);
        }
        coded(d, "a shorter one", d.group(0, 1, 2), 2, 0);
        coded(d, "nothing at 0", d.member(0, 0), 0, 1);
        coded(d, "nothing at 1", d.member(0, 1), 0, 1);
        coded(d, "no place 2", d.member(0, 2), 0, 3);
        coded(d, "its KIND", d.put(0, 0, 2), 0, 2);
        coded(d, "a longer one", d.group(0, 8, 3), 3, 0);
        coded(d, "nothing at 2 any more", d.member(0, 2), 0, 1);
    }

    private static void putRefused() {
        Due.about("35: OUTSIDE: g; UNKNOWN ahead: o");
        DrawLabels d = Desks.eachKind();
        d.group(0, 8, 1);
        int[] noGroups = {-1, 6, LEAST, MOST};
        int[] noObjects = {8, -2, 40, LEAST, MOST};
        for (int g : noGroups) {
            coded(d, "put(" + g + ", 0, 0)", d.put(g, 0, 0), OUTSIDE, 0);
            coded(d, "put(" + g + ", 0, NONE)", d.put(g, 0, NONE), OUTSIDE, 0);
            coded(d, "UNKNOWN is ahead of OUTSIDE", d.put(g, 0, 8), UNKNOWN, 0);
        }
        for (int o : noObjects) {
            coded(d, "put(0, 0, " + o + ")", d.put(0, 0, o), UNKNOWN, 0);
            coded(d, "UNKNOWN is ahead of CODE 3", d.put(0, 9, o), UNKNOWN, 0);
            coded(d, "UNKNOWN is ahead of CODE 1", d.put(1, 0, o), UNKNOWN, 0);
        }
    }

    private static void putNoGroup() {
        Due.about("35: CODES 1 (no GROUP)");
        DrawLabels d = Desks.eachKind();
        for (int g = 0; g <= 5; g++) {
            d.reach(4);
            coded(d, "put(" + g + ", 0, 0)", d.put(g, 0, 0), 0, 1);
        }
    }

    private static void putPlaces() {
        Due.about("35: CODE 3 (no such place)");
        DrawLabels d = Desks.eachKind();
        d.group(0, 8, 2);
        int[] wrong = {-1, 2, 64, LEAST, MOST};
        for (int i : wrong) {
            coded(d, "put(0, " + i + ", 0)", d.put(0, i, 0), 0, 3);
            coded(d, "put(0, " + i + ", NONE)", d.put(0, i, NONE), 0, 3);
        }
        coded(d, "place 0", d.put(0, 0, 6), 1, 0);
        coded(d, "place 1", d.put(0, 1, 7), 1, 0);
        coded(d, "member(0, 0)", d.member(0, 0), 6, 0);
        coded(d, "member(0, 1)", d.member(0, 1), 7, 0);
    }

    private static void putKinds() {
        Due.about("35: CODE 2 (another KIND)");
        DrawLabels d = Desks.eachKind();
        for (int kind = 0; kind <= 8; kind++) {
            d.group(1, kind, 1);
            for (int o = 0; o < 8; o++) {
                boolean fits = kind == 8 || kind == o;
                coded(d, "OBJECT " + o + " for KIND " + kind, d.put(1, 0, o), fits ? 1 : 0, fits ? 0 : 2);
            }
            coded(d, "what does not fit changes nothing", d.member(1, 0), kind == 8 ? 7 : kind, 0);
        }
    }

    private static void putCodesInOrder() {
        Due.about("35: CODES 1 (no GROUP), 3, 2, in this order");
        DrawLabels d = Desks.eachKind();
        coded(d, "1 is ahead of 3", d.put(2, -1, 0), 0, 1);
        d.group(2, 5, 1);
        coded(d, "3 is ahead of 2", d.put(2, 1, 0), 0, 3);
        coded(d, "2", d.put(2, 0, 0), 0, 2);
    }

    private static void putNothing() {
        Due.about("35: (NONE: nothing)");
        DrawLabels d = Desks.eachKind();
        d.group(2, 5, 1);
        coded(d, "nothing into nothing", d.put(2, 0, NONE), 1, 0);
        coded(d, "it fits each KIND, nothing is there", d.member(2, 0), 0, 1);
        coded(d, "put(2, 0, 5)", d.put(2, 0, 5), 1, 0);
        coded(d, "nothing in its place", d.put(2, 0, NONE), 1, 0);
        coded(d, "nothing is there", d.member(2, 0), 0, 1);
        coded(d, "without a GROUP", d.put(3, 0, NONE), 0, 1);
    }

    private static void memberNumbers() {
        Due.about("36: OUTSIDE: g");
        DrawLabels d = Desks.eachKind();
        d.reach(0);
        int[] wrong = {-1, 6, LEAST, MOST};
        for (int g : wrong) {
            coded(d, "member(" + g + ", 0)", d.member(g, 0), OUTSIDE, 2);
            coded(d, "member(" + g + ", -1)", d.member(g, -1), OUTSIDE, 2);
        }
    }

    private static void memberNothing() {
        Due.about("36: CODES 1 (no GROUP, or nothing there)");
        DrawLabels d = Desks.eachKind();
        d.group(3, 8, 2);
        d.put(3, 1, 0);
        for (int g = 0; g <= 5; g++) {
            d.reach(4);
            coded(d, "member(" + g + ", 0)", d.member(g, 0), 0, 1);
            coded(d, "member(" + g + ", -1)", d.member(g, -1), 0, g == 3 ? 3 : 1);
        }
        coded(d, "OBJECT 0 is something", d.member(3, 1), 0, 0);
    }

    private static void memberPlaces() {
        Due.about("36: CODE 3");
        DrawLabels d = Desks.eachKind();
        d.group(4, 8, 3);
        int[] wrong = {-1, 3, 63, 64, LEAST, MOST};
        for (int i : wrong) {
            coded(d, "member(4, " + i + ")", d.member(4, i), 0, 3);
        }
        d.put(4, 2, 7);
        coded(d, "the last place", d.member(4, 2), 7, 0);
    }

    private static void paintNumbers() {
        Due.about("37: OUTSIDE: g, s");
        DrawLabels d = Desks.eachKind();
        d.group(0, 8, 1);
        d.put(0, 0, 3);
        d.reach(0);
        int[] noGroups = {-1, 6, LEAST, MOST};
        int[] noStyles = {-1, 3, LEAST, MOST};
        for (int g : noGroups) {
            coded(d, "paint(" + g + ", 0)", d.paint(g, 0), OUTSIDE, 2);
        }
        for (int s : noStyles) {
            coded(d, "paint(0, " + s + ")", d.paint(0, s), OUTSIDE, 2);
            coded(d, "OUTSIDE is ahead of CODE 1", d.paint(1, s), OUTSIDE, 2);
        }
        for (int s = 0; s <= 2; s++) {
            coded(d, "paint(0, " + s + ")", d.paint(0, s), 1, 0);
            Due.due("style(3, " + s + ")", d.style(3, s), s);
        }
    }

    private static void paintNoGroup() {
        Due.about("37: CODE 1: no GROUP");
        DrawLabels d = Desks.eachKind();
        for (int g = 0; g <= 5; g++) {
            d.reach(4);
            coded(d, "paint(" + g + ", 1)", d.paint(g, 1), 0, 1);
        }
    }

    private static void paintAll() {
        Due.about("37: All OBJECTS in GROUP g get STYLE s: how many there are");
        DrawLabels d = Desks.eachKind();
        d.group(2, 8, 64);
        for (int i = 0; i < 64; i++) {
            d.put(2, i, i % 7);
        }
        coded(d, "64 places, all taken", d.paint(2, 2), 64, 0);
        for (int o = 0; o < 8; o++) {
            Due.due("style(" + o + ", 0)", d.style(o, 0), o < 7 ? 2 : 0);
        }
    }

    private static void paintNoPlaces() {
        Due.about("37: of a GROUP without places");
        DrawLabels d = Desks.eachKind();
        d.group(2, 8, 0);
        d.reach(0);
        coded(d, "paint(2, 1)", d.paint(2, 1), 0, 0);
    }

    private static void paintStopsAtNothing() {
        Due.about("37: or a place with nothing: those ahead of it have s then");
        for (int gap = 0; gap < 4; gap++) {
            DrawLabels d = Desks.eachKind();
            d.group(2, 8, 4);
            for (int i = 0; i < 4; i++) {
                d.put(2, i, i == gap ? NONE : i);
            }
            coded(d, "paint with nothing at " + gap, d.paint(2, 1), 0, 1);
            for (int o = 0; o < 4; o++) {
                Due.due("style(" + o + ", 0) with nothing at " + gap, d.style(o, 0), o < gap ? 1 : 0);
            }
        }
    }

    private static void reachNumbers() {
        Due.about("38: UNKNOWN");
        DrawLabels d = Desks.eachKind();
        d.group(0, 0, -1);
        int[] wrong = {8, -1, 40, LEAST, MOST};
        for (int o : wrong) {
            coded(d, "reach(" + o + ")", d.reach(o), UNKNOWN, 4);
        }
        coded(d, "reach(4)", d.reach(4), 25, 0);
    }

    private static void reachOfOthers() {
        Due.about("38: CODE 2: another KIND");
        DrawLabels d = Desks.eachKind();
        for (int o = 0; o < 8; o++) {
            coded(d, "reach(" + o + ")", d.reach(o), o == 4 ? 25 : 0, o == 4 ? 0 : 2);
        }
        d.object(4, 1, 1, 0);
        coded(d, "a CIRCLE that has FALLEN", d.reach(8), 0, 0);
    }

    private static void reachFarthest() {
        Due.about("38: The square of the distance of a CIRCLE's POINTS now");
        DrawLabels d = Desks.points(-20000, -20000, 20000, 20000);
        d.object(4, 0, 1, 0);
        coded(d, "at THE TICK 0", d.reach(0), 3200000000L, 0);
        d.move(0, -100, -100);
        d.move(1, 100, 100);
        d.tick(100);
        coded(d, "the farthest", d.reach(0), 7200000000L, 0);
    }
}
