import java.math.BigDecimal;
import java.math.MathContext;
import java.math.RoundingMode;
import java.util.ArrayList;
import java.util.List;
import java.util.TreeMap;

/**
 * The document once more, written as plainly as it can be and by other ways than the program's
 * (big fractions, all candidates looked at, no short cuts), to compare answers with.
 */
final class Model {
    static final int UNKNOWN = -100001, OUTSIDE = -100002, NOT = -100003, FULL = -100004;

    static final class Obj {
        int kind;
        int style;
        int n;
        List<Integer> on = new ArrayList<>();
        int[] anchor;
    }

    static final class Body {
        int p;
        int m;
        List<int[]> vertices = new ArrayList<>();
        List<int[]> faces = new ArrayList<>();
    }

    final List<int[]> points = new ArrayList<>();
    final List<Obj> objects = new ArrayList<>();
    final List<Integer> chain = new ArrayList<>();
    final List<Body> solids = new ArrayList<>();
    final List<int[]> labels = new ArrayList<>();
    final boolean[] hidden = new boolean[10];
    final int[][] groups = new int[6][];
    final int[] groupKinds = new int[6];
    int now;
    int[] win = {0, 100, 0, 100};
    int w = 100;
    int h = 100;
    int margin;
    int grid;
    int hatch = 10;
    int view;
    int code;
    // the drawing
    final List<int[]> marks = new ArrayList<>();
    int lost;
    int[] places = new int[0];
    int outs;
    int costs;
    int rounds;
    String text = "";

    private static boolean in(int n, int least, int most) {
        return n >= least && n <= most;
    }

    private boolean isPoint(int p) {
        return in(p, 0, points.size() - 1);
    }

    private boolean isObject(int o) {
        return in(o, 0, objects.size() - 1);
    }

    int point(int x, int y) {
        if (!in(x, -20000, 20000) || !in(y, -20000, 20000)) return OUTSIDE;
        if (points.size() == 60) return FULL;
        points.add(new int[] {x, y, 0, 0});
        return points.size() - 1;
    }

    int move(int p, int u, int v) {
        if (!isPoint(p)) return UNKNOWN;
        if (!in(u, -100, 100) || !in(v, -100, 100)) return OUTSIDE;
        points.get(p)[2] = u;
        points.get(p)[3] = v;
        return 1;
    }

    int tick(int t) {
        if (!in(t, 0, 100)) return OUTSIDE;
        int was = now;
        now = t;
        return was;
    }

    private int x(int p) {
        return points.get(p)[0] + now * points.get(p)[2];
    }

    private int y(int p) {
        return points.get(p)[1] + now * points.get(p)[3];
    }

    int at(int p, int axis) {
        if (!isPoint(p)) return UNKNOWN;
        if (!in(axis, 0, 1)) return OUTSIDE;
        return axis == 0 ? x(p) : y(p);
    }

    int object(int kind, int a, int b, int c) {
        if (!isPoint(a)) return UNKNOWN;
        if (in(kind, 1, 6) && !isPoint(b)) return UNKNOWN;
        if (kind == 5 && !isPoint(c)) return UNKNOWN;
        if (!in(kind, 0, 6)) return OUTSIDE;
        if (kind == 6 && !in(c, 1, 3)) return OUTSIDE;
        if (objects.size() == 40) return FULL;
        Obj o = new Obj();
        o.kind = kind;
        o.on.add(a);
        if (kind > 0) o.on.add(b);
        if (kind == 5) o.on.add(c);
        if (kind == 6) o.n = c;
        objects.add(o);
        return objects.size() - 1;
    }

    int corner(int p) {
        if (!isPoint(p)) return UNKNOWN;
        if (chain.size() == 12) return FULL;
        chain.add(p);
        return chain.size();
    }

    int area() {
        if (chain.size() < 3) return NOT;
        if (objects.size() == 40) return FULL;
        Obj o = new Obj();
        o.kind = 7;
        o.on.addAll(chain);
        chain.clear();
        objects.add(o);
        return objects.size() - 1;
    }

    int style(int o, int s) {
        if (!isObject(o)) return UNKNOWN;
        if (!in(s, 0, 2)) return OUTSIDE;
        int was = objects.get(o).style;
        objects.get(o).style = s;
        return was;
    }

    int hide(int kind, boolean on) {
        if (!in(kind, 0, 9)) return OUTSIDE;
        int was = hidden[kind] ? 1 : 0;
        hidden[kind] = on;
        return was;
    }

    private boolean same(int p, int q) {
        return x(p) == x(q) && y(p) == y(q);
    }

    private boolean isFallen(Obj o) {
        if (o.kind == 0) return false;
        if (o.kind == 7) return measureOf(o) == 0;
        if (o.kind == 5) return same(o.on.get(0), o.on.get(1)) || same(o.on.get(2), o.on.get(1));
        return same(o.on.get(0), o.on.get(1));
    }

    int fallen(int o) {
        return isObject(o) ? isFallen(objects.get(o)) ? 1 : 0 : UNKNOWN;
    }

    private long measureOf(Obj o) {
        long sum = 0;
        for (int k = 0; k < o.on.size(); k++) {
            int p = o.on.get(k);
            int q = o.on.get((k + 1) % o.on.size());
            sum += (long) x(p) * y(q) - (long) x(q) * y(p);
        }
        return sum;
    }

    long measure(int o) {
        if (!isObject(o)) return UNKNOWN;
        return objects.get(o).kind == 7 ? measureOf(objects.get(o)) : 0;
    }

    int window(int left, int right, int bottom, int top) {
        for (int n : new int[] {left, right, bottom, top}) {
            if (!in(n, -40000, 40000)) return OUTSIDE;
        }
        if (left > right || bottom > top) return OUTSIDE;
        win = new int[] {left, right, bottom, top};
        return 1;
    }

    int fit() {
        List<Integer> xs = new ArrayList<>();
        List<Integer> ys = new ArrayList<>();
        int n = 0;
        for (Obj o : objects) {
            if (hidden[o.kind]) continue;
            n++;
            for (int p : o.on) {
                xs.add(x(p));
                ys.add(y(p));
            }
        }
        if (n == 0) return NOT;
        xs.sort(null);
        ys.sort(null);
        win = new int[] {xs.get(0), xs.get(xs.size() - 1), ys.get(0), ys.get(ys.size() - 1)};
        return n;
    }

    int side(int what) {
        return in(what, 0, 3) ? win[what] : OUTSIDE;
    }

    int sheet(int newW, int newH, int newMargin) {
        if (!in(newW, 16, 400) || !in(newH, 16, 400) || !in(newMargin, 0, 7)) return OUTSIDE;
        w = newW;
        h = newH;
        margin = newMargin;
        return 1;
    }

    int grid(int g) {
        if (!in(g, 0, 40000)) return OUTSIDE;
        int was = grid;
        grid = g;
        return was;
    }

    int hatch(int g) {
        if (!in(g, 10, 1000)) return OUTSIDE;
        int was = hatch;
        hatch = g;
        return was;
    }

    private Fraction ratio() {
        if (win[0] == win[1] || win[2] == win[3]) return null;
        Fraction a = Fraction.of(w - 2 * margin, win[1] - win[0]);
        Fraction b = Fraction.of(h - 2 * margin, win[3] - win[2]);
        return a.compareTo(b) < 0 ? a : b;
    }

    int scale(boolean up) {
        Fraction r = ratio();
        code = r == null ? 6 : 0;
        return r == null ? 0 : (up ? r.above : r.below).intValueExact();
    }

    private Fraction sheetX(Fraction x) {
        return Fraction.of(w, 2).plus(x.minus(Fraction.of(win[0] + win[1], 2)).times(ratio()));
    }

    private Fraction sheetY(Fraction y) {
        return Fraction.of(h, 2).minus(y.minus(Fraction.of(win[2] + win[3], 2)).times(ratio()));
    }

    float single(int p, int what) {
        if (!isPoint(p)) return UNKNOWN;
        if (!in(what, 0, 2)) return OUTSIDE;
        code = 0;
        if (what == 2) {
            long dx = x(p) - (p == 0 ? 0 : x(p - 1));
            long dy = y(p) - (p == 0 ? 0 : y(p - 1));
            return new BigDecimal(dx * dx + dy * dy).floatValue();
        }
        if (ratio() == null) {
            code = 6;
            return 0;
        }
        Fraction f = what == 0 ? sheetX(Fraction.of(x(p))) : sheetY(Fraction.of(y(p)));
        return f.above.floatValue() / f.below.floatValue();
    }

    int solid(int p, int m) {
        if (!isPoint(p)) return UNKNOWN;
        if (!in(m, 1, 50)) return OUTSIDE;
        if (solids.size() == 4) return FULL;
        Body s = new Body();
        s.p = p;
        s.m = m;
        solids.add(s);
        return solids.size() - 1;
    }

    int vertex(int s, int x, int y, int z) {
        if (!in(s, 0, solids.size() - 1)) return UNKNOWN;
        if (!in(x, -100, 100) || !in(y, -100, 100) || !in(z, -100, 100)) return OUTSIDE;
        List<int[]> vertices = solids.get(s).vertices;
        if (vertices.size() == 12) return FULL;
        vertices.add(new int[] {x, y, z});
        return vertices.size() - 1;
    }

    int face(int s, int n, int v) {
        if (!in(s, 0, solids.size() - 1)) return UNKNOWN;
        if (!in(n, 3, 6)) return OUTSIDE;
        Body body = solids.get(s);
        int[] face = new int[n];
        for (int k = 0; k < n; k++) {
            face[k] = (int) ((v & 0xffffffffL) / (1L << 4 * k) % 16);
            if (face[k] >= body.vertices.size()) return UNKNOWN;
        }
        for (int j = 0; j < n; j++) {
            for (int k = 0; k < j; k++) {
                if (face[j] == face[k]) return NOT;
            }
        }
        if (body.faces.size() == 10) return FULL;
        body.faces.add(face);
        return body.faces.size();
    }

    int view(int k) {
        if (!in(k, 0, 4)) return OUTSIDE;
        int was = view;
        view = k;
        return was;
    }

    private boolean seen(Body s, int[] face) {
        int[] a = s.vertices.get(face[0]);
        int[] b = s.vertices.get(face[1]);
        int[] c = s.vertices.get(face[2]);
        int[] e = new int[][] {{0, 0, 1}, {0, 1, 0}, {1, 0, 0}, {1, 1, 2}, {1, 1, 1}}[view];
        long dot = 0;
        for (int k = 0; k < 3; k++) {
            int i = (k + 1) % 3;
            int j = (k + 2) % 3;
            dot += e[k] * ((long) (b[i] - a[i]) * (c[j] - a[j]) - (long) (b[j] - a[j]) * (c[i] - a[i]));
        }
        return dot > 0;
    }

    /** Each edge: the lesser vertex, the greater, whether it is behind, in how many faces. */
    private List<int[]> edges(Body s) {
        TreeMap<Integer, int[]> found = new TreeMap<>();
        for (int[] face : s.faces) {
            for (int k = 0; k < face.length; k++) {
                int a = face[k];
                int b = face[(k + 1) % face.length];
                int[] edge = found.computeIfAbsent(Math.min(a, b) * 100 + Math.max(a, b),
                    key -> new int[] {Math.min(a, b), Math.max(a, b), 1, 0});
                edge[3]++;
                if (seen(s, face)) edge[2] = 0;
            }
        }
        return new ArrayList<>(found.values());
    }

    int edge(int s, int k, int what) {
        if (!in(s, 0, solids.size() - 1)) return UNKNOWN;
        List<int[]> edges = edges(solids.get(s));
        if (k == -1) return edges.size();
        if (!in(k, 0, edges.size() - 1)) return UNKNOWN;
        return in(what, 0, 3) ? edges.get(k)[what] : OUTSIDE;
    }

    int label(int o, int n) {
        if (!isObject(o)) return UNKNOWN;
        if (!in(n, 1, 8)) return OUTSIDE;
        if (labels.size() == 20) return FULL;
        labels.add(new int[] {o, n});
        return labels.size() - 1;
    }

    private void add(int... mark) {
        if (marks.size() < 600) marks.add(mark);
        else lost++;
    }

    private boolean has(Fraction x, Fraction y) {
        return x.isWithin(win[0], win[1]) && y.isWithin(win[2], win[3]);
    }

    private boolean has(int p) {
        return has(Fraction.of(x(p)), Fraction.of(y(p)));
    }

    private int sx(long x) {
        return sheetX(Fraction.of(x)).rounded();
    }

    private int sy(long y) {
        return sheetY(Fraction.of(y)).rounded();
    }

    /** The stroke of what the window has, or null: of all cuts with the sides' lines, and ends, the first and the last inside. */
    private int[] cut(int kind, int ax, int ay, int bx, int by) {
        List<Fraction> cuts = new ArrayList<>();
        if (kind != 2) cuts.add(Fraction.ZERO);
        if (kind == 1) cuts.add(Fraction.ONE);
        for (int k = 0; k < 2; k++) {
            if (bx != ax) cuts.add(Fraction.of(win[k] - ax, bx - ax));
            if (by != ay) cuts.add(Fraction.of(win[2 + k] - ay, by - ay));
        }
        Fraction first = null;
        Fraction last = null;
        for (Fraction t : cuts) {
            if (kind != 2 && t.compareTo(Fraction.ZERO) < 0 || kind == 1 && t.compareTo(Fraction.ONE) > 0) continue;
            if (!has(along(ax, bx, t), along(ay, by, t))) continue;
            if (first == null || t.compareTo(first) < 0) first = t;
            if (last == null || t.compareTo(last) > 0) last = t;
        }
        if (first == null) return null;
        return new int[] {sheetX(along(ax, bx, first)).rounded(), sheetY(along(ay, by, first)).rounded(),
            sheetX(along(ax, bx, last)).rounded(), sheetY(along(ay, by, last)).rounded()};
    }

    private static Fraction along(int a, int b, Fraction t) {
        return Fraction.of(a).plus(t.times(Fraction.of(b - a)));
    }

    private static int octant(long dx, long dy) {
        int[][] rim = {{1, 0}, {1, 1}, {0, 1}, {-1, 1}, {-1, 0}, {-1, -1}, {0, -1}, {1, -1}, {1, 0}};
        for (int k = 0; k < 8; k++) {
            boolean fromHere = rim[k][0] * dy - rim[k][1] * dx >= 0;
            boolean beforeNext = dx * rim[k + 1][1] - dy * rim[k + 1][0] > 0;
            if (fromHere && beforeNext) return k;
        }
        throw new IllegalStateException();
    }

    private static int floorHalf(int n) {
        return Fraction.of(n, 2).down();
    }

    private void drawGrid() {
        if (grid == 0) return;
        for (int way = 0; way < 2; way++) {
            for (int n = win[2 * way]; n <= win[2 * way + 1]; n++) {
                if (n % grid != 0) continue;
                if (marks.size() == 600) lost++;
                else if (way == 0) add('S', sx(n), sy(win[2]), sx(n), sy(win[3]), 1);
                else add('S', sx(win[0]), sy(n), sx(win[1]), sy(n), 1);
            }
        }
    }

    private void drawArea(Obj o) {
        int n = o.on.size();
        int sumX = 0;
        int sumY = 0;
        for (int p : o.on) {
            sumX += sx(x(p));
            sumY += sy(y(p));
        }
        o.anchor = new int[] {Fraction.of(sumX, n).down(), Fraction.of(sumY, n).down()};
        for (int y = win[2]; y <= win[3]; y++) {
            if (y % hatch != 0) continue;
            List<Fraction> met = new ArrayList<>();
            for (int k = 0; k < n; k++) {
                int p = o.on.get(k);
                int q = o.on.get((k + 1) % n);
                if (y(p) <= y && y(q) > y || y(q) <= y && y(p) > y) {
                    met.add(along(x(p), x(q), Fraction.of(y - y(p), y(q) - y(p))));
                }
            }
            met.sort(null);
            for (int k = 0; k < met.size(); k += 2) {
                Fraction from = met.get(k);
                Fraction to = met.get(k + 1);
                if (from.compareTo(Fraction.of(win[1])) > 0 || to.compareTo(Fraction.of(win[0])) < 0) continue;
                if (from.compareTo(Fraction.of(win[0])) < 0) from = Fraction.of(win[0]);
                if (to.compareTo(Fraction.of(win[1])) > 0) to = Fraction.of(win[1]);
                add('S', sheetX(from).rounded(), sy(y), sheetX(to).rounded(), sy(y), o.style);
            }
        }
    }

    private static long sq(long n) {
        return n * n;
    }

    /** Whether a circle's line crosses a side of the window: from near to far the distance grows without a gap. */
    private boolean crossesSide(int cx, int cy, long square, int fixed, boolean upright) {
        int c = upright ? cy : cx;
        int least = upright ? win[2] : win[0];
        int most = upright ? win[3] : win[1];
        long away = sq(upright ? cx - fixed : cy - fixed);
        long near = away + (c < least ? sq(least - c) : c > most ? sq(c - most) : 0);
        long far = away + Math.max(sq(c - least), sq(c - most));
        return near <= square && square <= far;
    }

    private void drawCircle(Obj o) {
        int cx = x(o.on.get(0));
        int cy = y(o.on.get(0));
        long square = sq(cx - x(o.on.get(1))) + sq(cy - y(o.on.get(1)));
        boolean inside = cx >= win[0] && cx <= win[1] && cy >= win[2] && cy <= win[3]
            && sq(cx - win[0]) >= square && sq(cx - win[1]) >= square && sq(cy - win[2]) >= square && sq(cy - win[3]) >= square;
        boolean crosses = crossesSide(cx, cy, square, win[0], true) || crossesSide(cx, cy, square, win[1], true)
            || crossesSide(cx, cy, square, win[2], false) || crossesSide(cx, cy, square, win[3], false);
        if (!inside && !crosses) return;
        MathContext fine = new MathContext(80);
        BigDecimal r = new BigDecimal(square).sqrt(fine).multiply(new BigDecimal(ratio().above))
            .divide(new BigDecimal(ratio().below), fine).add(new BigDecimal("0.5")).setScale(0, RoundingMode.FLOOR);
        add('C', sx(cx), sy(cy), r.intValueExact(), inside ? 0 : 1, o.style);
        o.anchor = new int[] {sx(cx), sy(cy) - r.intValueExact()};
    }

    private void drawAngle(Obj o) {
        int b = o.on.get(1);
        if (!has(b)) return;
        long ux = x(o.on.get(0)) - x(b);
        long uy = y(o.on.get(0)) - y(b);
        long vx = x(o.on.get(2)) - x(b);
        long vy = y(o.on.get(2)) - y(b);
        long dot = ux * vx + uy * vy;
        boolean straight = ux * vy == uy * vx;
        int k = straight && dot > 0 ? 4 : straight ? 3 : dot > 0 ? 0 : dot == 0 ? 1 : 2;
        add('A', sx(x(b)), sy(y(b)), octant(ux, uy), octant(vx, vy), k);
        o.anchor = new int[] {sx(x(b)), sy(y(b))};
    }

    private void drawObject(Obj o) {
        int a = o.on.get(0);
        int b = o.on.get(Math.min(1, o.on.size() - 1));
        if (o.kind == 0 && has(a)) {
            add('D', sx(x(a)), sy(y(a)), o.style);
            o.anchor = new int[] {sx(x(a)), sy(y(a))};
        }
        if (o.kind >= 1 && o.kind <= 3) {
            int[] s = cut(o.kind, x(a), y(a), x(b), y(b));
            if (s == null) return;
            add('S', s[0], s[1], s[2], s[3], o.style);
            o.anchor = new int[] {floorHalf(s[0] + s[2]), floorHalf(s[1] + s[3])};
        }
        if (o.kind == 4) drawCircle(o);
        if (o.kind == 5) drawAngle(o);
        if (o.kind == 6) {
            Fraction mx = Fraction.of(x(a) + x(b), 2);
            Fraction my = Fraction.of(y(a) + y(b), 2);
            if (!has(mx, my)) return;
            o.anchor = new int[] {sheetX(mx).rounded(), sheetY(my).rounded()};
            add('T', o.anchor[0], o.anchor[1], o.n, octant(x(b) - x(a), y(b) - y(a)));
        }
    }

    private int[] place(Body s, int v) {
        int[] c = s.vertices.get(v);
        int x = c[0];
        int y = c[1];
        int z = c[2];
        int[] p = {x, x, -z, 2 * x - z, x - z};
        int[] q = {y, -z, y, 2 * y - z, 2 * y - x - z};
        return new int[] {x(s.p) + s.m * p[view], y(s.p) + s.m * q[view]};
    }

    private void drawSolid(Body s) {
        for (int[] e : edges(s)) {
            int[] a = place(s, e[0]);
            int[] b = place(s, e[1]);
            if (a[0] == b[0] && a[1] == b[1] || e[2] == 1 && hidden[9]) continue;
            int[] t = cut(1, a[0], a[1], b[0], b[1]);
            if (t != null) add('S', t[0], t[1], t[2], t[3], e[2]);
        }
    }

    int draw() {
        marks.clear();
        lost = 0;
        for (Obj o : objects) o.anchor = null;
        add('F', w, h);
        if (ratio() != null) {
            drawGrid();
            for (Obj o : objects) {
                if (o.kind == 7 && !hidden[7] && !isFallen(o)) drawArea(o);
            }
            for (Obj o : objects) {
                if (o.kind != 7 && !hidden[o.kind] && !isFallen(o)) drawObject(o);
            }
            for (Body s : solids) {
                if (!hidden[8]) drawSolid(s);
            }
        }
        placeLabels();
        StringBuilder all = new StringBuilder();
        for (int[] m : marks) {
            all.append((char) m[0]);
            for (int k = 1; k < m.length; k++) all.append(' ').append(m[k]);
            all.append('\n');
        }
        text = all.toString();
        code = ratio() == null ? 6 : 0;
        return ratio() == null ? 0 : marks.size();
    }

    // ---- labels

    private int[][] boxes(int[] label) {
        int[] a = objects.get(label[0]).anchor;
        int wide = 6 * label[1];
        int[][] at = {{3, -4}, {2, -11}, {-wide / 2, -12}, {-2 - wide, -11}, {-3 - wide, -4}, {-2 - wide, 2}, {-wide / 2, 3}, {2, 2}};
        int[][] boxes = new int[8][];
        for (int k = 0; k < 8; k++) {
            int left = a[0] + at[k][0];
            int top = a[1] + at[k][1];
            boxes[k] = new int[] {left, top, left + wide - 1, top + 8, -1};
            if (left < 0 || top < 0 || left + wide - 1 > w - 1 || top + 8 > h - 1) continue;
            boxes[k][4] = k;
            for (int[] m : marks) {
                if (m[0] == 'D' && in(m[1], left, left + wide - 1) && in(m[2], top, top + 8)) boxes[k][4] += 10;
                if (m[0] == 'S' && strokeMeets(m, boxes[k])) boxes[k][4] += 4;
            }
        }
        return boxes;
    }

    private static boolean strokeMeets(int[] m, int[] box) {
        Fraction from = Fraction.ZERO;
        Fraction to = Fraction.ONE;
        for (int axis = 0; axis < 2; axis++) {
            int a = m[1 + axis];
            int way = m[3 + axis] - a;
            if (way == 0) {
                if (!in(a, box[axis], box[axis + 2])) return false;
                continue;
            }
            Fraction s = Fraction.of(box[axis] - a, way);
            Fraction t = Fraction.of(box[axis + 2] - a, way);
            Fraction least = s.compareTo(t) < 0 ? s : t;
            Fraction most = s.compareTo(t) < 0 ? t : s;
            if (least.compareTo(from) > 0) from = least;
            if (most.compareTo(to) < 0) to = most;
        }
        return from.compareTo(to) <= 0;
    }

    private static boolean meet(int[] a, int[] b) {
        return Math.max(a[0], b[0]) <= Math.min(a[2], b[2]) && Math.max(a[1], b[1]) <= Math.min(a[3], b[3]);
    }

    private void placeLabels() {
        places = new int[labels.size()];
        java.util.Arrays.fill(places, 8);
        List<Integer> who = new ArrayList<>();
        List<int[][]> boxes = new ArrayList<>();
        for (int l = 0; l < labels.size(); l++) {
            if (objects.get(labels.get(l)[0]).anchor == null) continue;
            who.add(l);
            boxes.add(boxes(labels.get(l)));
        }
        int[] row = new int[who.size()];
        java.util.Arrays.fill(row, 8);
        rounds = 0;
        if (who.size() <= 6) {
            best = null;
            tryAll(boxes, row, 0);
            row = best;
        } else {
            goRounds(boxes, row);
        }
        outs = labels.size() - who.size();
        costs = 0;
        for (int i = 0; i < row.length; i++) {
            places[who.get(i)] = row[i];
            if (row[i] == 8) {
                outs++;
                continue;
            }
            int[] box = boxes.get(i)[row[i]];
            costs += box[4];
            add('W', box[0], box[1], labels.get(who.get(i))[1], who.get(i));
        }
    }

    private int[] best;
    private long bestValue;

    private void tryAll(List<int[][]> boxes, int[] row, int i) {
        if (i == row.length) {
            long value = 0;
            for (int k = 0; k < row.length; k++) {
                value += row[k] == 8 ? 1000000000L : boxes.get(k)[row[k]][4];
            }
            if (best == null || value < bestValue || value == bestValue && java.util.Arrays.compare(row, best) < 0) {
                best = row.clone();
                bestValue = value;
            }
            return;
        }
        // from the last to the first, so that the order of the search cannot stand in for the rule of the least row
        for (int place = 8; place >= 0; place--) {
            if (place < 8 && !free(boxes, row, i, place, i)) continue;
            row[i] = place;
            tryAll(boxes, row, i + 1);
        }
        row[i] = 8;
    }

    private static boolean free(List<int[][]> boxes, int[] row, int i, int place, int others) {
        int[] box = boxes.get(i)[place];
        if (box[4] < 0) return false;
        for (int j = 0; j < others; j++) {
            if (j != i && row[j] != 8 && meet(box, boxes.get(j)[row[j]])) return false;
        }
        return true;
    }

    private void goRounds(List<int[][]> boxes, int[] row) {
        boolean changed;
        do {
            changed = false;
            rounds++;
            for (int i = 0; i < row.length; i++) {
                int take = 8;
                for (int place = 7; place >= 0; place--) {
                    if (free(boxes, row, i, place, row.length)
                        && (take == 8 || boxes.get(i)[place][4] <= boxes.get(i)[take][4])) take = place;
                }
                if (take != row[i]) changed = true;
                row[i] = take;
            }
        } while (changed && rounds < 10);
    }

    int mark(int k, int what) {
        if (!in(k, 0, marks.size() - 1)) return UNKNOWN;
        if (!in(what, 0, 6)) return OUTSIDE;
        return what < marks.get(k).length ? marks.get(k)[what] : 0;
    }

    int placed(int l) {
        if (!in(l, 0, labels.size() - 1)) return UNKNOWN;
        return l < places.length ? places[l] : -1;
    }

    int octet(int k) {
        return in(k, 0, text.length() - 1) ? text.charAt(k) : -1;
    }

    int digest() {
        int d = 17;
        for (char c : text.toCharArray()) d = 31 * d + c;
        return d;
    }

    int count(int what) {
        if (!in(what, 0, 11)) return OUTSIDE;
        return new int[] {points.size(), objects.size(), solids.size(), labels.size(), now, view,
            marks.size(), lost, text.length(), outs, costs, rounds}[what];
    }

    int code() {
        return code;
    }

    private int coded(int c) {
        code = c;
        return 0;
    }

    int group(int g, int kind, int n) {
        if (!in(g, 0, 5) || !in(kind, 0, 8) || n > 64) return OUTSIDE;
        if (n < 0) return coded(4);
        groups[g] = new int[n];
        java.util.Arrays.fill(groups[g], -1);
        groupKinds[g] = kind;
        code = 0;
        return n;
    }

    int put(int g, int i, int o) {
        if (o != -1 && !isObject(o)) return UNKNOWN;
        if (!in(g, 0, 5)) return OUTSIDE;
        if (groups[g] == null) return coded(1);
        if (!in(i, 0, groups[g].length - 1)) return coded(3);
        if (o != -1 && groupKinds[g] != 8 && groupKinds[g] != objects.get(o).kind) return coded(2);
        groups[g][i] = o;
        code = 0;
        return 1;
    }

    int member(int g, int i) {
        if (!in(g, 0, 5)) return OUTSIDE;
        if (groups[g] == null) return coded(1);
        if (!in(i, 0, groups[g].length - 1)) return coded(3);
        if (groups[g][i] == -1) return coded(1);
        code = 0;
        return groups[g][i];
    }

    int paint(int g, int s) {
        if (!in(g, 0, 5) || !in(s, 0, 2)) return OUTSIDE;
        if (groups[g] == null) return coded(1);
        for (int o : groups[g]) {
            if (o == -1) return coded(1);
            objects.get(o).style = s;
        }
        code = 0;
        return groups[g].length;
    }

    long reach(int o) {
        if (!isObject(o)) return UNKNOWN;
        if (objects.get(o).kind != 4) return coded(2);
        code = 0;
        return sq(x(objects.get(o).on.get(0)) - x(objects.get(o).on.get(1)))
            + sq(y(objects.get(o).on.get(0)) - y(objects.get(o).on.get(1)));
    }
}
