import java.util.Random;

/** Random desks with the farthest numbers that are allowed, each answered by the program and by the model: no sum may overflow. */
public final class FarRunsTest {
    private static final int OBJECTS = 15, AREAS = 2, SOLIDS = 2;

    private final Random random;
    private final DrawLabels d = new DrawLabels();
    private final Model m = new Model();
    private final int points;
    private final String name;

    private FarRunsTest(int seed) {
        random = new Random(seed);
        name = "seed " + seed + ": ";
        points = among(3, 14);
    }

    public static void main(String[] args) {
        int first = args.length > 0 ? Integer.parseInt(args[0]) : 0;
        int runs = args.length > 1 ? Integer.parseInt(args[1]) : 40;
        for (int seed = first; seed < first + runs && !Due.hasWrong(); seed++) {
            new FarRunsTest(seed).run();
        }
        Due.end();
    }

    private void run() {
        addPoints();
        addObjects();
        for (int s = 0; s < SOLIDS; s++) {
            addSolid(s);
        }
        for (int l = random.nextInt(9); l > 0; l--) {
            int o = random.nextInt(OBJECTS + AREAS);
            int n = among(1, 8);
            same("label", d.label(o, n), m.label(o, n));
        }
        for (int k = 0; k < 4; k++) {
            setFrame();
            compare();
        }
    }

    private int among(int least, int most) {
        return least + random.nextInt(most - least + 1);
    }

    /** A number from -most to most, often one of its ends. */
    private int far(int most) {
        switch (random.nextInt(6)) {
            case 0: return most;
            case 1: return -most;
            case 2: return most - random.nextInt(3);
            case 3: return random.nextInt(3) - most;
            case 4: return among(-3, 3);
            default: return among(-most, most);
        }
    }

    private void same(String call, long got, long want) {
        Due.due(name + call, got, want);
    }

    private void addPoints() {
        for (int p = 0; p < points; p++) {
            int x = far(20000);
            int y = far(20000);
            int u = far(100);
            int v = far(100);
            same("point", d.point(x, y), m.point(x, y));
            same("move", d.move(p, u, v), m.move(p, u, v));
        }
        int t = random.nextInt(3) == 0 ? 100 : among(0, 100);
        same("tick", d.tick(t), m.tick(t));
    }

    private void addObjects() {
        for (int o = 0; o < OBJECTS; o++) {
            int kind = among(0, 6);
            int a = random.nextInt(points);
            int b = random.nextInt(points);
            int c = kind == 6 ? among(1, 3) : random.nextInt(points);
            int s = among(0, 2);
            same("object", d.object(kind, a, b, c), m.object(kind, a, b, c));
            same("style", d.style(o, s), m.style(o, s));
        }
        for (int k = 0; k < AREAS; k++) {
            for (int corners = among(3, 12); corners > 0; corners--) {
                int p = random.nextInt(points);
                same("corner", d.corner(p), m.corner(p));
            }
            same("area", d.area(), m.area());
        }
    }

    private void addSolid(int s) {
        int p = random.nextInt(points);
        int times = random.nextBoolean() ? 50 : among(1, 50);
        same("solid", d.solid(p, times), m.solid(p, times));
        for (int k = 0; k < 12; k++) {
            int x = far(100);
            int y = far(100);
            int z = far(100);
            same("vertex", d.vertex(s, x, y, z), m.vertex(s, x, y, z));
        }
        for (int k = 0; k < 20; k++) {
            int n = among(3, 6);
            int v = random.nextInt();
            same("face", d.face(s, n, v), m.face(s, n, v));
        }
    }

    private void setFrame() {
        int w = random.nextInt(3) == 0 ? 400 : among(16, 400);
        int h = random.nextInt(3) == 0 ? 16 : among(16, 400);
        int margin = among(0, 7);
        same("sheet", d.sheet(w, h, margin), m.sheet(w, h, margin));
        switch (random.nextInt(3)) {
            case 0: same("fit", d.fit(), m.fit()); break;
            case 1: setSmallWindow(); break;
            default: setWindow(far(40000), far(40000), far(40000), far(40000)); break;
        }
        int hatch = random.nextInt(4) == 0 ? 10 : among(500, 1000);
        int grid = random.nextInt(3) == 0 ? among(10000, 40000) : 0;
        int view = among(0, 4);
        same("hatch", d.hatch(hatch), m.hatch(hatch));
        same("grid", d.grid(grid), m.grid(grid));
        same("view", d.view(view), m.view(view));
    }

    /** By a POINT and so small that THE SCALE is great. */
    private void setSmallWindow() {
        int p = random.nextInt(points);
        int x = d.at(p, 0) + among(-2, 2);
        int y = d.at(p, 1) + among(-2, 2);
        setWindow(x, x + among(1, 4), y, y + among(1, 4));
    }

    private void setWindow(int x1, int x2, int y1, int y2) {
        int left = Math.min(x1, x2);
        int right = Math.max(x1, x2);
        int bottom = Math.min(y1, y2);
        int top = Math.max(y1, y2);
        same("window", d.window(left, right, bottom, top), m.window(left, right, bottom, top));
    }

    private void compare() {
        same("draw", d.draw(), m.draw());
        same("code", d.code(), m.code());
        same("digest", d.digest(), m.digest());
        for (int what = 0; what < 12; what++) {
            same("count " + what, d.count(what), m.count(what));
        }
        for (int l = 0; l < d.count(3); l++) {
            same("placed", d.placed(l), m.placed(l));
        }
        for (int p = 0; p < points; p++) {
            for (int what = 0; what < 3; what++) {
                same("single", Float.floatToRawIntBits(d.single(p, what)), Float.floatToRawIntBits(m.single(p, what)));
            }
        }
        for (int o = 0; o < OBJECTS + AREAS; o++) {
            same("measure", d.measure(o), m.measure(o));
            same("reach", d.reach(o), m.reach(o));
            same("fallen", d.fallen(o), m.fallen(o));
        }
        if (Due.hasWrong()) {
            Due.due(name + "the drawing", Due.text(d), m.text);
        }
    }
}
