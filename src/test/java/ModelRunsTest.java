import java.util.Random;

/** Random runs of calls, each answered by the program and by the model; the seeds are fixed, so each run is the same each time. */
public final class ModelRunsTest {
    private final Random random;
    private final DrawLabels d = new DrawLabels();
    private final Model m = new Model();
    private final int seed;
    /** How wide the figures spread. */
    private final int spread;
    private final StringBuilder log = new StringBuilder();
    private boolean wrong;

    private ModelRunsTest(int seed) {
        this.seed = seed;
        random = new Random(seed);
        spread = new int[] {4, 12, 60, 100, 1000, 20000}[random.nextInt(6)];
    }

    public static void main(String[] args) {
        int first = args.length > 0 ? Integer.parseInt(args[0]) : 0;
        int runs = args.length > 1 ? Integer.parseInt(args[1]) : 500;
        for (int seed = first; seed < first + runs && !Due.hasWrong(); seed++) {
            new ModelRunsTest(seed).run();
        }
        Due.end();
    }

    /** Many labels close to one another, so that they must give way. */
    private void crowd() {
        int w = among(24, 90);
        int h = among(20, 90);
        same("sheet", new int[] {w, h, 0}, d.sheet(w, h, 0), m.sheet(w, h, 0));
        same("window", new int[] {0, w, 0, h}, d.window(0, w, 0, h), m.window(0, w, 0, h));
        for (int k = among(3, 9); k > 0; k--) {
            int x = among(0, w);
            int y = among(0, h);
            same("point", new int[] {x, y}, d.point(x, y), m.point(x, y));
        }
        for (int k = among(1, 9); k > 0; k--) object();
        for (int k = among(2, 8); k > 0; k--) label();
        drawAndCompare();
    }

    private void run() {
        if (seed % 2 == 0) crowd();
        int start = random.nextInt(30);
        for (int k = 0; k < start; k++) point();
        for (int k = 0; k < start; k++) object();
        int calls = 20 + random.nextInt(150);
        for (int k = 0; k < calls && !wrong; k++) {
            call();
        }
        if (!wrong) drawAndCompare();
        if (wrong) {
            System.out.println("seed " + seed + ":\n" + log);
        }
    }

    private int among(int least, int most) {
        return least + random.nextInt(most - least + 1);
    }

    /** A number within, at times a wrong one. */
    private int some(int least, int most) {
        switch (random.nextInt(60)) {
            case 0: return least - 1;
            case 1: return most + 1;
            case 2: return random.nextInt();
            default: return among(least, Math.max(least, most));
        }
    }

    private int place() {
        return random.nextInt(40) == 0 ? some(-20000, 20000) : among(-spread, spread);
    }

    private int aPoint() {
        return some(0, d.count(0) - 1);
    }

    private int anObject() {
        return some(0, d.count(1) - 1);
    }

    private void same(String call, int[] args, long got, long want) {
        log.append(call).append(java.util.Arrays.toString(args)).append(' ').append(got).append('\n');
        Due.due("seed " + seed + ": " + call + java.util.Arrays.toString(args), got, want);
        wrong |= got != want;
        Due.due("seed " + seed + ": code() behind " + call, d.code(), m.code());
        wrong |= d.code() != m.code();
    }

    private void point() {
        int x = place();
        int y = place();
        same("point", new int[] {x, y}, d.point(x, y), m.point(x, y));
    }

    private void object() {
        int kind = some(0, 6);
        int a = aPoint();
        int b = aPoint();
        int c = kind == 6 ? some(1, 3) : aPoint();
        same("object", new int[] {kind, a, b, c}, d.object(kind, a, b, c), m.object(kind, a, b, c));
    }

    private void call() {
        switch (random.nextInt(34)) {
            case 0: case 1: point(); break;
            case 2: case 3: case 4: object(); break;
            case 5: move(); break;
            case 6: chain(); break;
            case 7: styles(); break;
            case 8: window(); break;
            case 9: case 10: sheet(); break;
            case 11: case 12: solid(); break;
            case 13: case 14: case 15: case 16: label(); break;
            case 17: case 18: case 19: case 20: drawAndCompare(); break;
            case 21: case 22: group(); break;
            case 23: asks(); break;
            case 24: wildAsks(); break;
            default: small(random.nextInt(12)); break;
        }
    }

    private void move() {
        int p = aPoint();
        int u = some(-100, 100);
        int v = some(-100, 100);
        if (random.nextBoolean()) {
            u = among(-2, 2);
            v = among(-2, 2);
        }
        same("move", new int[] {p, u, v}, d.move(p, u, v), m.move(p, u, v));
    }

    private void chain() {
        int n = some(0, 12);
        for (int k = 0; k < n && k < 14; k++) {
            int p = aPoint();
            same("corner", new int[] {p}, d.corner(p), m.corner(p));
        }
        same("area", new int[0], d.area(), m.area());
    }

    private void styles() {
        int o = anObject();
        int s = some(0, 2);
        same("style", new int[] {o, s}, d.style(o, s), m.style(o, s));
    }

    private void window() {
        if (random.nextInt(3) == 0) {
            same("fit", new int[0], d.fit(), m.fit());
            return;
        }
        int a = place();
        int b = place();
        int c = place();
        int e = place();
        boolean inOrder = random.nextInt(20) != 0;
        int[] w = inOrder ? new int[] {Math.min(a, b), Math.max(a, b), Math.min(c, e), Math.max(c, e)} : new int[] {a, b, c, e};
        same("window", w, d.window(w[0], w[1], w[2], w[3]), m.window(w[0], w[1], w[2], w[3]));
    }

    private void sheet() {
        int w = some(16, 400);
        int h = some(16, 400);
        int margin = some(0, 7);
        same("sheet", new int[] {w, h, margin}, d.sheet(w, h, margin), m.sheet(w, h, margin));
    }

    private void solid() {
        int p = aPoint();
        int times = some(1, random.nextBoolean() ? 3 : 50);
        same("solid", new int[] {p, times}, d.solid(p, times), m.solid(p, times));
        int s = some(0, d.count(2) - 1);
        int far = random.nextBoolean() ? 100 : 3;
        for (int k = random.nextInt(14); k > 0; k--) {
            int x = some(-far, far);
            int y = some(-far, far);
            int z = some(-far, far);
            same("vertex", new int[] {s, x, y, z}, d.vertex(s, x, y, z), m.vertex(s, x, y, z));
        }
        for (int k = random.nextInt(12); k > 0; k--) {
            int n = some(3, 6);
            int v = unlikeVertices();
            same("face", new int[] {s, n, v}, d.face(s, n, v), m.face(s, n, v));
        }
        for (int k = -2; k < 62; k++) {
            int what = some(0, 3);
            same("edge", new int[] {s, k, what}, d.edge(s, k, what), m.edge(s, k, what));
        }
    }

    private int unlikeVertices() {
        int[] row = {0, 1, 2, 3, 4, 5, 6, 7, 8, 9, 10, 11};
        int reach = among(4, 11);
        int v = 0;
        for (int k = 0; k < 6; k++) {
            int j = Math.min(11, k + random.nextInt(reach));
            int t = row[k];
            row[k] = row[j];
            row[j] = t;
            v |= row[k] << 4 * k;
        }
        return random.nextInt(20) == 0 ? random.nextInt() : v;
    }

    private void label() {
        int o = anObject();
        int n = some(1, random.nextBoolean() ? 2 : 8);
        same("label", new int[] {o, n}, d.label(o, n), m.label(o, n));
    }

    private void group() {
        int g = some(0, 5);
        int n = random.nextInt(6) == 0 ? some(0, 64) : random.nextInt(5);
        int kind = random.nextBoolean() ? 8 : some(0, 8);
        if (random.nextInt(5) != 0) {
            same("group", new int[] {g, kind, n}, d.group(g, kind, n), m.group(g, kind, n));
        }
        for (int k = random.nextInt(2 + Math.max(0, Math.min(n, 64))); k >= 0; k--) {
            int o = random.nextInt(6) == 0 ? -1 : anObject();
            int i = random.nextInt(6) == 0 ? some(0, n) : k;
            same("put", new int[] {g, i, o}, d.put(g, i, o), m.put(g, i, o));
            same("member", new int[] {g, i}, d.member(g, i), m.member(g, i));
        }
        int s = some(0, 2);
        same("paint", new int[] {g, s}, d.paint(g, s), m.paint(g, s));
    }

    private void asks() {
        for (int o = -1; o <= d.count(1); o++) {
            same("fallen", new int[] {o}, d.fallen(o), m.fallen(o));
            same("measure", new int[] {o}, d.measure(o), m.measure(o));
            same("reach", new int[] {o}, d.reach(o), m.reach(o));
        }
        for (int p = -1; p <= d.count(0); p++) {
            for (int what = -1; what < 4; what++) {
                same("at", new int[] {p, what}, d.at(p, what), m.at(p, what));
                same("single", new int[] {p, what}, Float.floatToRawIntBits(d.single(p, what)), Float.floatToRawIntBits(m.single(p, what)));
            }
        }
        for (int what = -1; what < 5; what++) {
            same("side", new int[] {what}, d.side(what), m.side(what));
        }
        same("scale", new int[] {1}, d.scale(true), m.scale(true));
        same("scale", new int[] {0}, d.scale(false), m.scale(false));
    }

    private void wildAsks() {
        int a = random.nextInt();
        int b = random.nextInt();
        same("mark", new int[] {a, b}, d.mark(a, b), m.mark(a, b));
        same("mark", new int[] {0, b}, d.mark(0, b), m.mark(0, b));
        same("octet", new int[] {a}, d.octet(a), m.octet(a));
        same("placed", new int[] {a}, d.placed(a), m.placed(a));
        same("count", new int[] {a}, d.count(a), m.count(a));
        same("edge", new int[] {a, b, 0}, d.edge(a, b, 0), m.edge(a, b, 0));
        same("edge", new int[] {0, b, 0}, d.edge(0, b, 0), m.edge(0, b, 0));
        same("member", new int[] {0, b}, d.member(0, b), m.member(0, b));
    }

    private void small(int which) {
        int n;
        boolean on = random.nextInt(3) == 0;
        switch (which) {
            case 0: n = some(0, 100); same("tick", new int[] {n}, d.tick(n), m.tick(n)); break;
            case 1: n = some(0, 3); same("tick", new int[] {n}, d.tick(n), m.tick(n)); break;
            case 2: n = some(0, 9); same("hide", new int[] {n, on ? 1 : 0}, d.hide(n, on), m.hide(n, on)); break;
            case 3: case 4: n = some(0, Math.min(40000, 2 * spread)); same("grid", new int[] {n}, d.grid(n), m.grid(n)); break;
            case 5: n = 0; same("grid", new int[] {n}, d.grid(n), m.grid(n)); break;
            case 6: n = some(10, Math.max(11, spread / 6)); same("hatch", new int[] {n}, d.hatch(n), m.hatch(n)); break;
            case 7: n = some(10, 1000); same("hatch", new int[] {n}, d.hatch(n), m.hatch(n)); break;
            default: n = some(0, 4); same("view", new int[] {n}, d.view(n), m.view(n)); break;
        }
    }

    private void drawAndCompare() {
        same("draw", new int[0], d.draw(), m.draw());
        same("digest", new int[0], d.digest(), m.digest());
        for (int what = -1; what < 13; what++) {
            same("count", new int[] {what}, d.count(what), m.count(what));
        }
        for (int l = -1; l <= d.count(3); l++) {
            same("placed", new int[] {l}, d.placed(l), m.placed(l));
        }
        for (int k = 0; k < 12; k++) {
            int octet = random.nextInt(Math.max(1, d.count(8))) - 1;
            same("octet", new int[] {octet}, d.octet(octet), m.octet(octet));
            int mark = random.nextInt(d.count(6) + 1);
            int what = some(0, 6);
            same("mark", new int[] {mark, what}, d.mark(mark, what), m.mark(mark, what));
        }
        if (wrong) {
            Due.due("the drawing of seed " + seed, Due.text(d), m.text);
        }
    }
}
