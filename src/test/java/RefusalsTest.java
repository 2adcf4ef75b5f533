import java.util.ArrayList;
import java.util.List;

/**
 * Terms, REFUSALS: what is refused changes nothing; and of CODES: a call with a CODE above 0 changes nothing but CODE.
 * Two desks are made alike; the one is refused a call, then both must tell the same of themselves.
 */
public final class RefusalsTest {
    private static final int UNKNOWN = DrawLabels.UNKNOWN, OUTSIDE = DrawLabels.OUTSIDE, NOT = DrawLabels.NOT, FULL = DrawLabels.FULL, NONE = DrawLabels.NONE;

    private interface Call {
        double on(DrawLabels d);
    }

    private record Refused(String words, Call call, double due) {
    }

    private static final List<Refused> CALLS = new ArrayList<>();

    public static void main(String[] args) {
        figures();
        frames();
        solids();
        drawings();
        groups();
        for (Refused r : CALLS) {
            check(r, false);
        }
        CALLS.clear();
        whenFull();
        for (Refused r : CALLS) {
            check(r, true);
        }
        CALLS.clear();
        codes();
        for (Refused r : CALLS) {
            checkCode(r);
        }
        noScale();
        Due.end();
    }

    private static void refused(String words, Call call, double due) {
        CALLS.add(new Refused(words, call, due));
    }

    private static void check(Refused r, boolean full) {
        Due.about("Terms: What is refused changes nothing");
        DrawLabels d = full ? fullDesk() : desk();
        DrawLabels same = full ? fullDesk() : desk();
        Due.due(r.words, r.call.on(d), r.due);
        Due.due("state behind " + r.words, state(d), state(same));
    }

    /** The first number of a state is CODE, which the call may change. */
    private static void checkCode(Refused r) {
        Due.about("Terms 7: A call with a CODE above 0 answers 0 and changes nothing");
        DrawLabels d = desk();
        DrawLabels same = desk();
        Due.due(r.words, r.call.on(d), 0);
        Due.due("code() behind " + r.words, d.code(), (long) r.due);
        String got = state(d);
        String want = state(same);
        Due.due("state behind " + r.words, got.substring(got.indexOf(' ')), want.substring(want.indexOf(' ')));
    }

    /** Something of all there is, far from full; CODE is 3. */
    private static DrawLabels desk() {
        DrawLabels d = Desks.points(10, 10, 60, 20, 30, 70);
        d.move(1, 1, 2);
        d.tick(3);
        for (int kind = 0; kind < 7; kind++) {
            d.object(kind, 0, 1, kind == 6 ? 3 : 2);
            d.style(kind, kind % 3);
        }
        Desks.area(d, 0, 1, 2);
        d.corner(0);
        d.corner(2);
        d.hide(6, true);
        d.hide(9, true);
        d.window(-5, 95, -3, 97);
        d.sheet(120, 110, 3);
        d.grid(50);
        d.hatch(30);
        d.solid(2, 2);
        d.vertex(0, 0, 0, 0);
        d.vertex(0, 9, 0, 0);
        d.vertex(0, 0, 9, 0);
        d.vertex(0, 0, 0, 9);
        d.face(0, 3, 0x210);
        d.face(0, 3, 0x320);
        d.view(3);
        d.label(0, 1);
        d.label(7, 2);
        d.draw();
        d.group(0, 8, 3);
        d.put(0, 0, 4);
        d.group(5, 4, 1);
        d.member(0, 3);
        return d;
    }

    /** The same, and full of all that there may be too much of. */
    private static DrawLabels fullDesk() {
        DrawLabels d = desk();
        while (d.point(1, 2) != FULL) {
            d.count(0);
        }
        while (d.object(0, 5, 0, 0) != FULL) {
            d.count(1);
        }
        while (d.corner(1) != FULL) {
            d.count(0);
        }
        while (d.solid(0, 1) != FULL) {
            d.count(2);
        }
        while (d.vertex(0, 1, 1, 1) != FULL) {
            d.count(2);
        }
        while (d.face(0, 3, 0x210) != FULL) {
            d.count(2);
        }
        while (d.label(0, 1) != FULL) {
            d.count(3);
        }
        return d;
    }

    /** All that a desk tells of itself; what must be set to be seen is set back. */
    private static String state(DrawLabels d) {
        StringBuilder all = new StringBuilder();
        all.append(d.code()).append(' ');
        for (int what = 0; what < 12; what++) {
            all.append(d.count(what)).append(' ');
        }
        all.append(d.digest()).append('/');
        for (int l = 0; l < d.count(3); l++) {
            all.append(d.placed(l)).append(' ');
        }
        for (int what = 0; what < 4; what++) {
            all.append(d.side(what)).append(' ');
        }
        all.append(d.scale(true)).append(' ').append(d.scale(false)).append('/');
        stateOfPoints(d, all);
        stateOfObjects(d, all);
        stateOfSolids(d, all);
        int grid = d.grid(0);
        d.grid(grid);
        int hatch = d.hatch(10);
        d.hatch(hatch);
        all.append(grid).append(' ').append(hatch).append('/');
        for (int kind = 0; kind < 10; kind++) {
            int was = d.hide(kind, false);
            d.hide(kind, was == 1);
            all.append(was);
        }
        for (int g = 0; g < 6; g++) {
            for (int i = 0; i < 4; i++) {
                all.append(' ').append(d.member(g, i)).append('.').append(d.code());
            }
        }
        all.append('/').append(d.draw()).append(' ').append(d.digest()).append('/');
        all.append(d.corner(0)).append(' ').append(d.area()).append(' ').append(d.measure(d.count(1) - 1));
        return all.toString();
    }

    private static void stateOfPoints(DrawLabels d, StringBuilder all) {
        int now = d.tick(0);
        for (int t = 0; t <= 100; t += 100) {
            d.tick(t);
            for (int p = 0; p < 4; p++) {
                all.append(d.at(p, 0)).append(',').append(d.at(p, 1)).append(' ');
            }
        }
        d.tick(now);
    }

    private static void stateOfObjects(DrawLabels d, StringBuilder all) {
        for (int o = 0; o < d.count(1); o++) {
            int style = d.style(o, 0);
            d.style(o, style);
            all.append(style).append(d.fallen(o)).append(d.measure(o)).append(' ').append(d.reach(o)).append(' ');
        }
    }

    private static void stateOfSolids(DrawLabels d, StringBuilder all) {
        for (int s = 0; s < d.count(2); s++) {
            int edges = d.edge(s, -1, 0);
            all.append(edges).append(':');
            for (int k = 0; k < edges && k < 6; k++) {
                for (int what = 0; what < 4; what++) {
                    all.append(d.edge(s, k, what)).append(' ');
                }
            }
        }
    }

    private static void figures() {
        refused("point(20001, 0)", d -> d.point(20001, 0), OUTSIDE);
        refused("point(0, -20001)", d -> d.point(0, -20001), OUTSIDE);
        refused("move(3, 5, 5)", d -> d.move(3, 5, 5), UNKNOWN);
        refused("move(-1, 5, 5)", d -> d.move(-1, 5, 5), UNKNOWN);
        refused("move(0, 101, 5)", d -> d.move(0, 101, 5), OUTSIDE);
        refused("move(0, 5, -101)", d -> d.move(0, 5, -101), OUTSIDE);
        refused("tick(101)", d -> d.tick(101), OUTSIDE);
        refused("tick(-1)", d -> d.tick(-1), OUTSIDE);
        refused("at(3, 0)", d -> d.at(3, 0), UNKNOWN);
        refused("at(0, 2)", d -> d.at(0, 2), OUTSIDE);
        refused("object(0, 3, 0, 0)", d -> d.object(0, 3, 0, 0), UNKNOWN);
        refused("object(1, 0, 3, 0)", d -> d.object(1, 0, 3, 0), UNKNOWN);
        refused("object(5, 0, 1, 3)", d -> d.object(5, 0, 1, 3), UNKNOWN);
        refused("object(7, 0, 1, 2)", d -> d.object(7, 0, 1, 2), OUTSIDE);
        refused("object(-1, 0, 1, 2)", d -> d.object(-1, 0, 1, 2), OUTSIDE);
        refused("object(6, 0, 1, 4)", d -> d.object(6, 0, 1, 4), OUTSIDE);
        refused("corner(3)", d -> d.corner(3), UNKNOWN);
        refused("area()", d -> d.area(), NOT);
        refused("style(8, 1)", d -> d.style(8, 1), UNKNOWN);
        refused("style(0, 3)", d -> d.style(0, 3), OUTSIDE);
        refused("hide(10, true)", d -> d.hide(10, true), OUTSIDE);
        refused("hide(-1, true)", d -> d.hide(-1, true), OUTSIDE);
        refused("fallen(8)", d -> d.fallen(8), UNKNOWN);
        refused("measure(8)", d -> d.measure(8), UNKNOWN);
    }

    private static void frames() {
        refused("window(-40001, 1, 1, 2)", d -> d.window(-40001, 1, 1, 2), OUTSIDE);
        refused("window(2, 1, 1, 2)", d -> d.window(2, 1, 1, 2), OUTSIDE);
        refused("window(1, 2, 2, 1)", d -> d.window(1, 2, 2, 1), OUTSIDE);
        refused("window(1, 2, 1, 40001)", d -> d.window(1, 2, 1, 40001), OUTSIDE);
        refused("side(4)", d -> d.side(4), OUTSIDE);
        refused("sheet(15, 50, 0)", d -> d.sheet(15, 50, 0), OUTSIDE);
        refused("sheet(50, 401, 0)", d -> d.sheet(50, 401, 0), OUTSIDE);
        refused("sheet(50, 50, 8)", d -> d.sheet(50, 50, 8), OUTSIDE);
        refused("grid(-1)", d -> d.grid(-1), OUTSIDE);
        refused("grid(40001)", d -> d.grid(40001), OUTSIDE);
        refused("hatch(9)", d -> d.hatch(9), OUTSIDE);
        refused("hatch(1001)", d -> d.hatch(1001), OUTSIDE);
        refused("single(3, 0)", d -> d.single(3, 0), UNKNOWN);
        refused("single(0, 3)", d -> d.single(0, 3), OUTSIDE);
    }

    private static void solids() {
        refused("solid(3, 1)", d -> d.solid(3, 1), UNKNOWN);
        refused("solid(0, 51)", d -> d.solid(0, 51), OUTSIDE);
        refused("vertex(1, 0, 0, 0)", d -> d.vertex(1, 0, 0, 0), UNKNOWN);
        refused("vertex(0, 0, 0, 101)", d -> d.vertex(0, 0, 0, 101), OUTSIDE);
        refused("face(1, 3, 0x210)", d -> d.face(1, 3, 0x210), UNKNOWN);
        refused("face(0, 2, 0x210)", d -> d.face(0, 2, 0x210), OUTSIDE);
        refused("face(0, 3, 0x410)", d -> d.face(0, 3, 0x410), UNKNOWN);
        refused("face(0, 4, 0x1310)", d -> d.face(0, 4, 0x1310), NOT);
        refused("view(5)", d -> d.view(5), OUTSIDE);
        refused("edge(1, 0, 0)", d -> d.edge(1, 0, 0), UNKNOWN);
        refused("edge(0, 99, 0)", d -> d.edge(0, 99, 0), UNKNOWN);
        refused("edge(0, 0, 4)", d -> d.edge(0, 0, 4), OUTSIDE);
    }

    private static void drawings() {
        refused("label(8, 1)", d -> d.label(8, 1), UNKNOWN);
        refused("label(0, 9)", d -> d.label(0, 9), OUTSIDE);
        refused("mark(600, 0)", d -> d.mark(600, 0), UNKNOWN);
        refused("mark(0, 7)", d -> d.mark(0, 7), OUTSIDE);
        refused("placed(2)", d -> d.placed(2), UNKNOWN);
        refused("octet(-1)", d -> d.octet(-1), NONE);
        refused("count(12)", d -> d.count(12), OUTSIDE);
    }

    private static void groups() {
        refused("group(6, 8, 1)", d -> d.group(6, 8, 1), OUTSIDE);
        refused("group(0, 9, 1)", d -> d.group(0, 9, 1), OUTSIDE);
        refused("group(0, 8, 65)", d -> d.group(0, 8, 65), OUTSIDE);
        refused("put(0, 1, 8)", d -> d.put(0, 1, 8), UNKNOWN);
        refused("put(6, 1, 0)", d -> d.put(6, 1, 0), OUTSIDE);
        refused("member(6, 0)", d -> d.member(6, 0), OUTSIDE);
        refused("paint(6, 1)", d -> d.paint(6, 1), OUTSIDE);
        refused("paint(0, 3)", d -> d.paint(0, 3), OUTSIDE);
        refused("reach(8)", d -> d.reach(8), UNKNOWN);
    }

    private static void whenFull() {
        refused("the 61st POINT", d -> d.point(7, 7), FULL);
        refused("the 41st OBJECT", d -> d.object(4, 0, 1, 2), FULL);
        refused("the 13th POINT of THE CHAIN", d -> d.corner(2), FULL);
        refused("an AREA as the 41st OBJECT", d -> d.area(), FULL);
        refused("the fifth SOLID", d -> d.solid(1, 3), FULL);
        refused("the 13th VERTEX", d -> d.vertex(0, 7, 7, 7), FULL);
        refused("the eleventh FACE", d -> d.face(0, 3, 0x321), FULL);
        refused("the 21st LABEL", d -> d.label(1, 3), FULL);
        refused("OUTSIDE ahead of FULL", d -> d.point(20001, 7), OUTSIDE);
        refused("UNKNOWN ahead of FULL", d -> d.corner(60), UNKNOWN);
        refused("NOT ahead of FULL", d -> d.face(0, 3, 0x011), NOT);
    }

    private static void codes() {
        refused("group(5, 8, -1)", d -> d.group(5, 8, -1), 4);
        refused("put(1, 0, 0)", d -> d.put(1, 0, 0), 1);
        refused("put(0, 3, 0)", d -> d.put(0, 3, 0), 3);
        refused("put(5, 0, 0)", d -> d.put(5, 0, 0), 2);
        refused("member(1, 0)", d -> d.member(1, 0), 1);
        refused("member(0, 1)", d -> d.member(0, 1), 1);
        refused("member(0, -1)", d -> d.member(0, -1), 3);
        refused("paint(1, 2)", d -> d.paint(1, 2), 1);
        refused("paint(5, 2)", d -> d.paint(5, 2), 1);
        refused("reach(0)", d -> d.reach(0), 2);
    }

    private static void noScale() {
        Due.about("Terms 7: A call with CODE 6 answers 0 and changes nothing");
        DrawLabels d = desk();
        DrawLabels same = desk();
        d.window(5, 5, 5, 5);
        Due.due("scale(true)", d.scale(true), 0);
        Due.due("scale(false)", d.scale(false), 0);
        Due.due("single(1, 0)", d.single(1, 0), 0);
        Due.due("single(1, 1)", d.single(1, 1), 0);
        Due.due("code()", d.code(), 6);
        d.window(-5, 95, -3, 97);
        String got = state(d);
        String want = state(same);
        Due.due("state behind them", got.substring(got.indexOf(' ')), want.substring(want.indexOf(' ')));
        Due.about("14: NOT: none; what is refused changes nothing");
        DrawLabels hidden = desk();
        DrawLabels twin = desk();
        for (int kind = 0; kind < 8; kind++) {
            hidden.hide(kind, true);
            twin.hide(kind, true);
        }
        Due.due("fit()", hidden.fit(), NOT);
        Due.due("state behind fit()", state(hidden), state(twin));
    }
}
