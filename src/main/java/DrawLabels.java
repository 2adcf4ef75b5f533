/**
 * A desk that draws figures on a sheet and sets labels beside them.
 *
 * Every answer is whole-number arithmetic: a place that is a fraction is
 * carried as a number above and a number below, and rounded once, at the end.
 * The greatest numbers (some 5e15, see Frame.sheetLength) stay far inside a long.
 */
public final class DrawLabels {
    public static final int NONE = -1, UNKNOWN = -100001, OUTSIDE = -100002, NOT = -100003, FULL = -100004;

    private static final int CODE_DONE = 0, CODE_NOTHING = 1, CODE_OTHER_KIND = 2, CODE_NO_PLACE = 3,
        CODE_BELOW_ZERO = 4, CODE_BY_ZERO = 6;

    private final Points points = new Points();
    private final Figures figures = new Figures(points);
    private final Frame frame = new Frame();
    private final Solids solids = new Solids();
    private final Marks marks = new Marks();
    private final Labels labels = new Labels();
    private final Groups groups = new Groups();
    private final Painter painter = new Painter(figures, points, frame, marks);
    private final Placer placer = new Placer(labels, painter, marks, frame);
    private int latestCode = CODE_DONE;

    public DrawLabels() {
    }

    // ---- points, objects

    public int point(int x, int y) {
        if (!isWithin(x, -Points.FARTHEST, Points.FARTHEST) || !isWithin(y, -Points.FARTHEST, Points.FARTHEST)) {
            return OUTSIDE;
        }
        return points.isFull() ? FULL : points.add(x, y);
    }

    public int move(int p, int u, int v) {
        if (!points.has(p)) {
            return UNKNOWN;
        }
        if (!isWithin(u, -Points.FASTEST, Points.FASTEST) || !isWithin(v, -Points.FASTEST, Points.FASTEST)) {
            return OUTSIDE;
        }
        points.goBy(p, u, v);
        return 1;
    }

    public int tick(int t) {
        if (!isWithin(t, 0, Points.LAST_TICK)) {
            return OUTSIDE;
        }
        int before = points.now;
        points.now = t;
        return before;
    }

    public int at(int p, int axis) {
        if (!points.has(p)) {
            return UNKNOWN;
        }
        if (!isWithin(axis, 0, 1)) {
            return OUTSIDE;
        }
        return axis == 0 ? points.xNow(p) : points.yNow(p);
    }

    public int object(int kind, int a, int b, int c) {
        boolean isKind = isWithin(kind, Figures.DOT, Figures.TICKS);
        if (!points.has(a)) {
            return UNKNOWN;
        }
        if (isKind && kind != Figures.DOT && !points.has(b)) {
            return UNKNOWN;
        }
        if (kind == Figures.ANGLE && !points.has(c)) {
            return UNKNOWN;
        }
        if (!isKind || kind == Figures.TICKS && !isWithin(c, 1, Figures.MOST_STROKES)) {
            return OUTSIDE;
        }
        return figures.isFull() ? FULL : figures.add(kind, a, b, c);
    }

    public int corner(int p) {
        if (!points.has(p)) {
            return UNKNOWN;
        }
        return figures.chainIsFull() ? FULL : figures.lengthenChain(p);
    }

    public int area() {
        if (figures.chainSize < Figures.LEAST_CORNERS) {
            return NOT;
        }
        return figures.isFull() ? FULL : figures.addArea();
    }

    public int style(int o, int s) {
        if (!figures.has(o)) {
            return UNKNOWN;
        }
        if (!isWithin(s, 0, Figures.LAST_STYLE)) {
            return OUTSIDE;
        }
        int before = figures.styleOf(o);
        figures.setStyle(o, s);
        return before;
    }

    public int hide(int kind, boolean on) {
        if (!isWithin(kind, 0, Figures.HIDDEN_BEHIND)) {
            return OUTSIDE;
        }
        int before = figures.isHidden(kind) ? 1 : 0;
        figures.setHidden(kind, on);
        return before;
    }

    public int fallen(int o) {
        if (!figures.has(o)) {
            return UNKNOWN;
        }
        return figures.hasFallen(o) ? 1 : 0;
    }

    public long measure(int o) {
        if (!figures.has(o)) {
            return UNKNOWN;
        }
        return figures.kindOf(o) == Figures.AREA ? figures.turnOf(o) : 0;
    }

    // ---- window, sheet

    public int window(int left, int right, int bottom, int top) {
        int far = Frame.FARTHEST;
        boolean inside = isWithin(left, -far, far) && isWithin(right, -far, far)
            && isWithin(bottom, -far, far) && isWithin(top, -far, far);
        if (!inside || left > right || bottom > top) {
            return OUTSIDE;
        }
        frame.setWindow(left, right, bottom, top);
        return 1;
    }

    public int fit() {
        int seen = 0;
        int left = Frame.FARTHEST;
        int right = -Frame.FARTHEST;
        int bottom = Frame.FARTHEST;
        int top = -Frame.FARTHEST;
        for (int o = 0; o < figures.size; o++) {
            if (figures.isHidden(figures.kindOf(o))) {
                continue;
            }
            seen++;
            for (int k = 0; k < figures.cornersOf(o); k++) {
                left = Math.min(left, figures.xOf(o, k));
                right = Math.max(right, figures.xOf(o, k));
                bottom = Math.min(bottom, figures.yOf(o, k));
                top = Math.max(top, figures.yOf(o, k));
            }
        }
        if (seen == 0) {
            return NOT;
        }
        frame.setWindow(left, right, bottom, top);
        return seen;
    }

    public int side(int what) {
        switch (what) {
            case 0: return frame.left;
            case 1: return frame.right;
            case 2: return frame.bottom;
            case 3: return frame.top;
            default: return OUTSIDE;
        }
    }

    public int sheet(int w, int h, int margin) {
        boolean inside = isWithin(w, Frame.LEAST_SIDE, Frame.MOST_SIDE) && isWithin(h, Frame.LEAST_SIDE, Frame.MOST_SIDE)
            && isWithin(margin, 0, Frame.MOST_MARGIN);
        if (!inside) {
            return OUTSIDE;
        }
        frame.setSheet(w, h, margin);
        return 1;
    }

    public int grid(int g) {
        if (!isWithin(g, 0, Frame.FARTHEST)) {
            return OUTSIDE;
        }
        int before = frame.gridStep;
        frame.gridStep = g;
        return before;
    }

    public int hatch(int h) {
        if (!isWithin(h, Frame.LEAST_HATCH, Frame.MOST_HATCH)) {
            return OUTSIDE;
        }
        int before = frame.hatchStep;
        frame.hatchStep = h;
        return before;
    }

    public int scale(boolean up) {
        if (!frame.hasScale()) {
            return endWith(CODE_BY_ZERO);
        }
        latestCode = CODE_DONE;
        return up ? frame.up : frame.down;
    }

    public float single(int p, int what) {
        if (!points.has(p)) {
            return (float) UNKNOWN;
        }
        if (!isWithin(what, 0, 2)) {
            return (float) OUTSIDE;
        }
        if (what != 2 && !frame.hasScale()) {
            return (float) endWith(CODE_BY_ZERO);
        }
        latestCode = CODE_DONE;
        if (what == 2) {
            return (float) points.squareFromBefore(p);
        }
        long above = what == 0 ? frame.aboveX(points.xNow(p), 1) : frame.aboveY(points.yNow(p), 1);
        long below = frame.below(1);
        long shared = commonDivisor(above, below);
        if (shared <= 0 || below <= 0) {
            return 0.0f;
        }
        return (float) (above / shared) / (float) (below / shared);
    }

    // ---- solids

    public int solid(int p, int m) {
        if (!points.has(p)) {
            return UNKNOWN;
        }
        if (!isWithin(m, 1, Solid.MOST_TIMES)) {
            return OUTSIDE;
        }
        return solids.isFull() ? FULL : solids.add(p, m);
    }

    public int vertex(int s, int x, int y, int z) {
        Solid solid = solids.find(s);
        if (solid == null) {
            return UNKNOWN;
        }
        int far = Solid.FARTHEST;
        if (!isWithin(x, -far, far) || !isWithin(y, -far, far) || !isWithin(z, -far, far)) {
            return OUTSIDE;
        }
        return solid.verticesAreFull() ? FULL : solid.addVertex(x, y, z);
    }

    public int face(int s, int n, int v) {
        Solid solid = solids.find(s);
        if (solid == null) {
            return UNKNOWN;
        }
        if (!isWithin(n, Solid.LEAST_IN_FACE, Solid.MOST_IN_FACE)) {
            return OUTSIDE;
        }
        if (!solid.hasVertices(n, v)) {
            return UNKNOWN;
        }
        if (Solid.hasOneTwice(n, v)) {
            return NOT;
        }
        return solid.facesAreFull() ? FULL : solid.addFace(n, v);
    }

    public int view(int k) {
        if (!isWithin(k, 0, Solids.LAST_VIEW)) {
            return OUTSIDE;
        }
        int before = solids.view;
        solids.view = k;
        return before;
    }

    public int edge(int s, int k, int what) {
        Solid solid = solids.find(s);
        if (solid == null) {
            return UNKNOWN;
        }
        if (k == NONE) {
            return solid.edgeCount();
        }
        int pair = solid.edgeNumbered(k);
        if (pair == NONE) {
            return UNKNOWN;
        }
        switch (what) {
            case 0: return Solid.lesserOf(pair);
            case 1: return Solid.greaterOf(pair);
            case 2: return solid.isBehind(pair, solid.facesSeen(solids.view)) ? 1 : 0;
            case 3: return solid.facesWith(pair);
            default: return OUTSIDE;
        }
    }

    // ---- drawings

    public int label(int o, int n) {
        if (!figures.has(o)) {
            return UNKNOWN;
        }
        if (!isWithin(n, 1, Labels.MOST_LETTERS)) {
            return OUTSIDE;
        }
        return labels.isFull() ? FULL : labels.add(o, n);
    }

    public int draw() {
        painter.begin();
        if (frame.hasScale()) {
            painter.paintGrid();
            painter.paintAreas();
            painter.paintOthers();
            painter.paintSolids(solids);
        }
        placer.placeAll();
        marks.seal();
        if (!frame.hasScale()) {
            return endWith(CODE_BY_ZERO);
        }
        latestCode = CODE_DONE;
        return marks.size;
    }

    public int mark(int k, int what) {
        if (!marks.has(k)) {
            return UNKNOWN;
        }
        if (!isWithin(what, 0, Marks.LAST_NUMBER)) {
            return OUTSIDE;
        }
        return marks.valueAt(k, what);
    }

    public int placed(int l) {
        if (!labels.has(l)) {
            return UNKNOWN;
        }
        return labels.drawnPlaceOf(l);
    }

    public int octet(int k) {
        return marks.octetAt(k);
    }

    public int digest() {
        return marks.folded;
    }

    public int count(int what) {
        switch (what) {
            case 0: return points.size;
            case 1: return figures.size;
            case 2: return solids.size;
            case 3: return labels.size;
            case 4: return points.now;
            case 5: return solids.view;
            case 6: return marks.size;
            case 7: return marks.lost;
            case 8: return marks.octetCount();
            case 9: return labels.drawnOut;
            case 10: return labels.drawnCost;
            case 11: return labels.drawnRounds;
            default: return OUTSIDE;
        }
    }

    // ---- groups

    public int code() {
        return latestCode;
    }

    public int group(int g, int kind, int n) {
        if (!Groups.isNumber(g) || !isWithin(kind, 0, Groups.ALL_KINDS) || n > Groups.MOST_PLACES) {
            return OUTSIDE;
        }
        if (n < 0) {
            return endWith(CODE_BELOW_ZERO);
        }
        groups.make(g, kind, n);
        latestCode = CODE_DONE;
        return n;
    }

    public int put(int g, int i, int o) {
        if (o != NONE && !figures.has(o)) {
            return UNKNOWN;
        }
        if (!Groups.isNumber(g)) {
            return OUTSIDE;
        }
        if (!groups.isMade(g)) {
            return endWith(CODE_NOTHING);
        }
        if (!groups.hasPlace(g, i)) {
            return endWith(CODE_NO_PLACE);
        }
        if (o != NONE && !groups.takes(g, figures.kindOf(o))) {
            return endWith(CODE_OTHER_KIND);
        }
        groups.setMember(g, i, o);
        latestCode = CODE_DONE;
        return 1;
    }

    public int member(int g, int i) {
        if (!Groups.isNumber(g)) {
            return OUTSIDE;
        }
        if (!groups.isMade(g)) {
            return endWith(CODE_NOTHING);
        }
        if (!groups.hasPlace(g, i)) {
            return endWith(CODE_NO_PLACE);
        }
        int o = groups.memberAt(g, i);
        if (o == NONE) {
            return endWith(CODE_NOTHING);
        }
        latestCode = CODE_DONE;
        return o;
    }

    public int paint(int g, int s) {
        if (!Groups.isNumber(g) || !isWithin(s, 0, Figures.LAST_STYLE)) {
            return OUTSIDE;
        }
        if (!groups.isMade(g)) {
            return endWith(CODE_NOTHING);
        }
        int places = groups.placesOf(g);
        for (int i = 0; i < places; i++) {
            int o = groups.memberAt(g, i);
            if (o == NONE) {
                return endWith(CODE_NOTHING);
            }
            figures.setStyle(o, s);
        }
        latestCode = CODE_DONE;
        return places;
    }

    public long reach(int o) {
        if (!figures.has(o)) {
            return UNKNOWN;
        }
        if (figures.kindOf(o) != Figures.CIRCLE) {
            return endWith(CODE_OTHER_KIND);
        }
        latestCode = CODE_DONE;
        return figures.squareOfSpan(o);
    }

    /** A call that ends with a code above 0 answers 0. */
    private int endWith(int code) {
        latestCode = code;
        return 0;
    }

    // ---- arithmetic

    private static boolean isWithin(int n, int least, int most) {
        return n >= least && n <= most;
    }

    /** The nearest whole number to n / d, a half up; d is above 0. */
    private static int rounded(long n, long d) {
        return d <= 0 ? 0 : (int) Math.floorDiv(2 * n + d, 2 * d);
    }

    private static int roundedDown(long n, long d) {
        return d <= 0 ? 0 : (int) Math.floorDiv(n, d);
    }

    private static long commonDivisor(long n, long d) {
        long a = Math.abs(n);
        long b = Math.abs(d);
        // Euclid's steps on two longs are fewer than 100.
        for (int step = 0; step < 100 && b != 0; step++) {
            long rest = a % b;
            a = b;
            b = rest;
        }
        return a;
    }

    /** The greatest whole number whose square is not above n (n below 2 to the 62nd). */
    private static long squareRoot(long n) {
        long root = 0;
        for (int bit = 30; bit >= 0; bit--) {
            long next = root + (1L << bit);
            if (next * next <= n) {
                root = next;
            }
        }
        return root;
    }

    /** The least multiple of a step that is not below a number. */
    private static int multipleFrom(int least, int step) {
        return step <= 0 ? least : -Math.floorDiv(-least, step) * step;
    }

    /** How many multiples of a step are not outside of least .. most. */
    private static int multiplesWithin(int least, int most, int step) {
        int first = multipleFrom(least, step);
        return step <= 0 || first > most ? 0 : (most - first) / step + 1;
    }

    /** In which eighth of a turn a way lies; one that parts two eighths is in the later one. */
    private static int octant(int dx, int dy) {
        if (dy >= 0 && dx > 0) {
            return dy < dx ? 0 : 1;
        }
        if (dy > 0) {
            return dy > -dx ? 2 : 3;
        }
        if (dx < 0) {
            return dy > dx ? 4 : 5;
        }
        return -dy > dx ? 6 : 7;
    }

    /** Points, where they start, how they go, and the tick that is now. */
    private static final class Points {
        static final int MOST = 60, FARTHEST = 20000, FASTEST = 100, LAST_TICK = 100;

        final int[] startX = new int[MOST];
        final int[] startY = new int[MOST];
        final int[] goX = new int[MOST];
        final int[] goY = new int[MOST];
        int size;
        int now;

        boolean has(int p) {
            return p >= 0 && p < size && p < MOST;
        }

        boolean isFull() {
            return size >= MOST;
        }

        int add(int x, int y) {
            if (isFull()) {
                return FULL;
            }
            startX[size] = x;
            startY[size] = y;
            size++;
            return size - 1;
        }

        void goBy(int p, int u, int v) {
            if (has(p)) {
                goX[p] = u;
                goY[p] = v;
            }
        }

        int xNow(int p) {
            return has(p) ? startX[p] + now * goX[p] : 0;
        }

        int yNow(int p) {
            return has(p) ? startY[p] + now * goY[p] : 0;
        }

        /** The point ahead of the first one counts as standing at 0, 0: xNow of no point is 0. */
        long squareFromBefore(int p) {
            long dx = xNow(p) - xNow(p - 1);
            long dy = yNow(p) - yNow(p - 1);
            return dx * dx + dy * dy;
        }
    }

    /** Objects on points, the chain that the next area is made of, and which kinds are hidden. */
    private static final class Figures {
        static final int DOT = 0, PIECE = 1, LINE = 2, RAY = 3, CIRCLE = 4, ANGLE = 5, TICKS = 6, AREA = 7;
        static final int HIDDEN_SOLIDS = 8, HIDDEN_BEHIND = 9;
        static final int MOST = 40, LEAST_CORNERS = 3, MOST_CORNERS = 12, MOST_STROKES = 3, LAST_STYLE = 2;

        final Points points;
        final int[] kinds = new int[MOST];
        final int[] styles = new int[MOST];
        final int[] strokes = new int[MOST];
        final int[] cornerCounts = new int[MOST];
        final int[] corners = new int[MOST * MOST_CORNERS];
        final boolean[] hidden = new boolean[HIDDEN_BEHIND + 1];
        final int[] chain = new int[MOST_CORNERS];
        int chainSize;
        int size;

        Figures(Points points) {
            this.points = points;
        }

        boolean has(int o) {
            return o >= 0 && o < size && o < MOST;
        }

        boolean isFull() {
            return size >= MOST;
        }

        boolean chainIsFull() {
            return chainSize >= MOST_CORNERS;
        }

        int lengthenChain(int p) {
            if (!chainIsFull()) {
                chain[chainSize] = p;
                chainSize++;
            }
            return chainSize;
        }

        int add(int kind, int a, int b, int c) {
            if (isFull()) {
                return FULL;
            }
            int row = size * MOST_CORNERS;
            kinds[size] = kind;
            cornerCounts[size] = kind == DOT ? 1 : kind == ANGLE ? 3 : 2;
            strokes[size] = kind == TICKS ? c : 0;
            corners[row] = a;
            corners[row + 1] = b;
            corners[row + 2] = c;
            size++;
            return size - 1;
        }

        int addArea() {
            if (isFull()) {
                return FULL;
            }
            kinds[size] = AREA;
            cornerCounts[size] = chainSize;
            System.arraycopy(chain, 0, corners, size * MOST_CORNERS, MOST_CORNERS);
            chainSize = 0;
            size++;
            return size - 1;
        }

        int kindOf(int o) {
            return has(o) ? kinds[o] : NONE;
        }

        int styleOf(int o) {
            return has(o) ? styles[o] : 0;
        }

        void setStyle(int o, int s) {
            if (has(o)) {
                styles[o] = s;
            }
        }

        int strokesOf(int o) {
            return has(o) ? strokes[o] : 0;
        }

        int cornersOf(int o) {
            return has(o) ? cornerCounts[o] : 0;
        }

        int xOf(int o, int k) {
            return k >= 0 && k < cornersOf(o) ? points.xNow(corners[o * MOST_CORNERS + k]) : 0;
        }

        int yOf(int o, int k) {
            return k >= 0 && k < cornersOf(o) ? points.yNow(corners[o * MOST_CORNERS + k]) : 0;
        }

        boolean isHidden(int kind) {
            return kind >= 0 && kind <= HIDDEN_BEHIND && hidden[kind];
        }

        void setHidden(int kind, boolean on) {
            if (kind >= 0 && kind <= HIDDEN_BEHIND) {
                hidden[kind] = on;
            }
        }

        boolean hasFallen(int o) {
            switch (kindOf(o)) {
                case DOT: return false;
                case ANGLE: return isAtOnePlace(o, 0, 1) || isAtOnePlace(o, 2, 1);
                case AREA: return turnOf(o) == 0;
                default: return isAtOnePlace(o, 0, 1);
            }
        }

        boolean isDrawn(int o) {
            return !isHidden(kindOf(o)) && !hasFallen(o);
        }

        boolean isAtOnePlace(int o, int j, int k) {
            return xOf(o, j) == xOf(o, k) && yOf(o, j) == yOf(o, k);
        }

        /** What the document calls the measure of an area: twice what it covers, with the sign of its way round. */
        long turnOf(int o) {
            int n = cornersOf(o);
            long sum = 0;
            for (int k = 0; k < n; k++) {
                int next = k + 1 < n ? k + 1 : 0;
                sum += (long) xOf(o, k) * yOf(o, next) - (long) xOf(o, next) * yOf(o, k);
            }
            return sum;
        }

        long squareOfSpan(int o) {
            long dx = xOf(o, 1) - xOf(o, 0);
            long dy = yOf(o, 1) - yOf(o, 0);
            return dx * dx + dy * dy;
        }
    }

    /** The window, the sheet, and the scale that leads from the one to the other. */
    private static final class Frame {
        static final int FARTHEST = 40000, LEAST_SIDE = 16, MOST_SIDE = 400, MOST_MARGIN = 7;
        static final int LEAST_HATCH = 10, MOST_HATCH = 1000;

        int left = 0;
        int right = 100;
        int bottom = 0;
        int top = 100;
        int wide = 100;
        int high = 100;
        int margin = 0;
        int gridStep = 0;
        int hatchStep = LEAST_HATCH;
        /** Both are 0 if there is no scale. */
        int up = 1;
        int down = 1;

        void setWindow(int newLeft, int newRight, int newBottom, int newTop) {
            left = newLeft;
            right = newRight;
            bottom = newBottom;
            top = newTop;
            rescale();
        }

        void setSheet(int newWide, int newHigh, int newMargin) {
            wide = newWide;
            high = newHigh;
            margin = newMargin;
            rescale();
        }

        private void rescale() {
            int upX = wide - 2 * margin;
            int downX = right - left;
            int upY = high - 2 * margin;
            int downY = top - bottom;
            up = 0;
            down = 0;
            if (downX <= 0 || downY <= 0) {
                return;
            }
            boolean xIsLess = (long) upX * downY <= (long) upY * downX;
            int above = xIsLess ? upX : upY;
            int below = xIsLess ? downX : downY;
            int shared = (int) commonDivisor(above, below);
            if (shared > 0) {
                up = above / shared;
                down = below / shared;
            }
        }

        boolean hasScale() {
            return down > 0;
        }

        /** X of x = n / d, as a fraction: this by below(d). */
        long aboveX(long n, long d) {
            return wide * d * down + (2 * n - (left + right) * d) * up;
        }

        /** Y of y = n / d, as a fraction: this by below(d). */
        long aboveY(long n, long d) {
            return high * d * down - (2 * n - (bottom + top) * d) * up;
        }

        long below(long d) {
            return 2 * d * down;
        }

        int sheetX(long n, long d) {
            return rounded(aboveX(n, d), below(d));
        }

        int sheetY(long n, long d) {
            return rounded(aboveY(n, d), below(d));
        }

        /** A length told by its square, on the sheet. The whole part of its double tells which way its half goes: no root is cut short. */
        int sheetLength(long square) {
            if (down <= 0) {
                return 0;
            }
            long doubled = squareRoot(4L * up * up * square / ((long) down * down));
            return (int) ((doubled + 1) / 2);
        }

        /** Whether the window has the place x / d, y / d. */
        boolean holds(long x, long y, int d) {
            return x >= (long) left * d && x <= (long) right * d && y >= (long) bottom * d && y <= (long) top * d;
        }

        /** Its line is met if the window has a place not farther than the radius, and one not nearer. */
        boolean meetsCircle(int x, int y, long square) {
            long nearX = Math.max(0, Math.max(left - x, x - right));
            long nearY = Math.max(0, Math.max(bottom - y, y - top));
            long farX = Math.max(Math.abs(x - left), Math.abs(right - x));
            long farY = Math.max(Math.abs(y - bottom), Math.abs(top - y));
            return nearX * nearX + nearY * nearY <= square && square <= farX * farX + farY * farY;
        }

        boolean holdsCircle(int x, int y, long square) {
            long room = Math.min(Math.min(x - left, right - x), Math.min(y - bottom, top - y));
            return room >= 0 && room * room >= square;
        }
    }

    /** Cuts a straight way to the window; its ends are told as fractions of the way from a to b. */
    private static final class Cutter {
        /** Farther along than any cut: no start is 100000 away from the window, and a step is 1 at least. */
        private static final long FAR = 1000000;

        final Frame frame;
        int fromX;
        int fromY;
        int wayX;
        int wayY;
        long firstAbove;
        long firstBelow;
        long lastAbove;
        long lastBelow;

        Cutter(Frame frame) {
            this.frame = frame;
        }

        void setWay(int ax, int ay, int bx, int by) {
            fromX = ax;
            fromY = ay;
            wayX = bx - ax;
            wayY = by - ay;
        }

        /** Whether the window has anything of it. */
        boolean cut(int kind) {
            firstAbove = kind == Figures.LINE ? -FAR : 0;
            firstBelow = 1;
            lastAbove = kind == Figures.PIECE ? 1 : FAR;
            lastBelow = 1;
            return cutAxis(fromX, wayX, frame.left, frame.right)
                && cutAxis(fromY, wayY, frame.bottom, frame.top)
                && firstAbove * lastBelow <= lastAbove * firstBelow;
        }

        private boolean cutAxis(int from, int way, int least, int most) {
            if (way == 0) {
                return from >= least && from <= most;
            }
            if (way > 0) {
                startNotBefore(least - from, way);
                endNotBehind(most - from, way);
            } else {
                startNotBefore(from - most, -way);
                endNotBehind(from - least, -way);
            }
            return true;
        }

        private void startNotBefore(long above, long below) {
            if (above * firstBelow > firstAbove * below) {
                firstAbove = above;
                firstBelow = below;
            }
        }

        private void endNotBehind(long above, long below) {
            if (above * lastBelow < lastAbove * below) {
                lastAbove = above;
                lastBelow = below;
            }
        }

        int firstX() {
            return frame.sheetX(fromX * firstBelow + wayX * firstAbove, firstBelow);
        }

        int firstY() {
            return frame.sheetY(fromY * firstBelow + wayY * firstAbove, firstBelow);
        }

        int lastX() {
            return frame.sheetX(fromX * lastBelow + wayX * lastAbove, lastBelow);
        }

        int lastY() {
            return frame.sheetY(fromY * lastBelow + wayY * lastAbove, lastBelow);
        }
    }

    /** All solids, and the view on them. */
    private static final class Solids {
        static final int MOST = 4, LAST_VIEW = 4;

        final Solid[] all = new Solid[MOST];
        int size;
        int view;

        boolean isFull() {
            return size >= MOST;
        }

        int add(int p, int times) {
            if (isFull()) {
                return FULL;
            }
            all[size] = new Solid(p, times);
            size++;
            return size - 1;
        }

        /** Null if there is none. */
        Solid find(int s) {
            return s >= 0 && s < size && s < MOST ? all[s] : null;
        }
    }

    /** One solid. A pair of vertices is told by one number, lesser * MOST_VERTICES + greater, so pairs are in the edges' order. */
    private static final class Solid {
        static final int MOST_VERTICES = 12, MOST_FACES = 10, LEAST_IN_FACE = 3, MOST_IN_FACE = 6;
        static final int FARTHEST = 100, MOST_TIMES = 50, PAIRS = MOST_VERTICES * MOST_VERTICES;

        final int point;
        final int times;
        final int[] xs = new int[MOST_VERTICES];
        final int[] ys = new int[MOST_VERTICES];
        final int[] zs = new int[MOST_VERTICES];
        final int[] normalX = new int[MOST_FACES];
        final int[] normalY = new int[MOST_FACES];
        final int[] normalZ = new int[MOST_FACES];
        /** Of each pair the faces in which it is an edge, a bit each. */
        final int[] facesOfPair = new int[PAIRS];
        int vertices;
        int faces;

        Solid(int point, int times) {
            this.point = point;
            this.times = times;
        }

        boolean verticesAreFull() {
            return vertices >= MOST_VERTICES;
        }

        boolean facesAreFull() {
            return faces >= MOST_FACES;
        }

        int addVertex(int x, int y, int z) {
            if (verticesAreFull()) {
                return FULL;
            }
            xs[vertices] = x;
            ys[vertices] = y;
            zs[vertices] = z;
            vertices++;
            return vertices - 1;
        }

        private static int vertexIn(int packed, int k) {
            return packed >> 4 * k & 15;
        }

        boolean hasVertices(int n, int packed) {
            for (int k = 0; k < n; k++) {
                if (vertexIn(packed, k) >= vertices) {
                    return false;
                }
            }
            return true;
        }

        static boolean hasOneTwice(int n, int packed) {
            int met = 0;
            for (int k = 0; k < n; k++) {
                met |= 1 << vertexIn(packed, k);
            }
            return Integer.bitCount(met) < n;
        }

        int addFace(int n, int packed) {
            if (facesAreFull() || !hasVertices(n, packed)) {
                return FULL;
            }
            setNormal(vertexIn(packed, 0), vertexIn(packed, 1), vertexIn(packed, 2));
            for (int k = 0; k < n; k++) {
                int v = vertexIn(packed, k);
                int next = vertexIn(packed, k + 1 < n ? k + 1 : 0);
                facesOfPair[Math.min(v, next) * MOST_VERTICES + Math.max(v, next)] |= 1 << faces;
            }
            faces++;
            return faces;
        }

        private void setNormal(int a, int b, int c) {
            int bx = xs[b] - xs[a];
            int by = ys[b] - ys[a];
            int bz = zs[b] - zs[a];
            int cx = xs[c] - xs[a];
            int cy = ys[c] - ys[a];
            int cz = zs[c] - zs[a];
            normalX[faces] = by * cz - bz * cy;
            normalY[faces] = bz * cx - bx * cz;
            normalZ[faces] = bx * cy - by * cx;
        }

        /** The faces that are seen, a bit each. */
        int facesSeen(int view) {
            int seen = 0;
            for (int f = 0; f < faces; f++) {
                if (towardsEye(f, view) > 0) {
                    seen |= 1 << f;
                }
            }
            return seen;
        }

        private int towardsEye(int f, int view) {
            switch (view) {
                case 0: return normalZ[f];
                case 1: return normalY[f];
                case 2: return normalX[f];
                case 3: return normalX[f] + normalY[f] + 2 * normalZ[f];
                default: return normalX[f] + normalY[f] + normalZ[f];
            }
        }

        int acrossOf(int v, int view) {
            if (v < 0 || v >= vertices) {
                return 0;
            }
            switch (view) {
                case 0: return times * xs[v];
                case 1: return times * xs[v];
                case 2: return times * -zs[v];
                case 3: return times * (2 * xs[v] - zs[v]);
                default: return times * (xs[v] - zs[v]);
            }
        }

        int risingOf(int v, int view) {
            if (v < 0 || v >= vertices) {
                return 0;
            }
            switch (view) {
                case 0: return times * ys[v];
                case 1: return times * -zs[v];
                case 2: return times * ys[v];
                case 3: return times * (2 * ys[v] - zs[v]);
                default: return times * (2 * ys[v] - xs[v] - zs[v]);
            }
        }

        int edgeCount() {
            int edges = 0;
            for (int pair = 0; pair < PAIRS; pair++) {
                edges += isEdge(pair) ? 1 : 0;
            }
            return edges;
        }

        /** The pair of edge k, or NONE. */
        int edgeNumbered(int k) {
            int edges = 0;
            for (int pair = 0; pair < PAIRS; pair++) {
                if (isEdge(pair)) {
                    if (edges == k) {
                        return pair;
                    }
                    edges++;
                }
            }
            return NONE;
        }

        static int lesserOf(int pair) {
            return pair / MOST_VERTICES;
        }

        static int greaterOf(int pair) {
            return pair % MOST_VERTICES;
        }

        boolean isEdge(int pair) {
            return pair >= 0 && pair < PAIRS && facesOfPair[pair] != 0;
        }

        int facesWith(int pair) {
            return pair >= 0 && pair < PAIRS ? Integer.bitCount(facesOfPair[pair]) : 0;
        }

        boolean isBehind(int pair, int seen) {
            return pair >= 0 && pair < PAIRS && (facesOfPair[pair] & seen) == 0;
        }
    }

    /** The marks of the drawing, a row each, and their octets. Without a drawing there is no mark. */
    private static final class Marks {
        static final char SHEET = 'F', STROKE = 'S', DOT = 'D', CIRCLE = 'C', ANGLE = 'A', TICKS = 'T', WORD = 'W';
        static final int MOST = 600, WIDTH = 6, LAST_NUMBER = 6;
        /** A letter, five numbers of a blank, a sign and ten digits each, and the end of the line. */
        private static final int LONGEST_LINE = 62;
        private static final int MOST_DIGITS = 10;
        private static final int FOLD_START = 17;

        final int[] rows = new int[MOST * WIDTH];
        /** Where, in all octets, each mark's octets end: they are written anew when one is asked for, not kept. */
        final int[] ends = new int[MOST];
        final int[] line = new int[LONGEST_LINE];
        int lineSize;
        int size;
        int lost;
        int folded = FOLD_START;

        void clear() {
            size = 0;
            lost = 0;
        }

        boolean has(int k) {
            return k >= 0 && k < size && k < MOST;
        }

        boolean isFull() {
            return size >= MOST;
        }

        void lose(int more) {
            lost += more;
        }

        void add(char letter, int a, int b, int c, int d, int e) {
            if (isFull()) {
                lose(1);
                return;
            }
            int row = size * WIDTH;
            rows[row] = letter;
            rows[row + 1] = a;
            rows[row + 2] = b;
            rows[row + 3] = c;
            rows[row + 4] = d;
            rows[row + 5] = e;
            size++;
        }

        /** The letter (what = 0) or a number; no mark has a number behind its row. */
        int valueAt(int k, int what) {
            return has(k) && what >= 0 && what < WIDTH ? rows[k * WIDTH + what] : 0;
        }

        private static int numbersOf(int letter) {
            switch (letter) {
                case SHEET: return 2;
                case DOT: return 3;
                case TICKS: return 4;
                case WORD: return 4;
                default: return 5;
            }
        }

        /** Counts and folds the octets of a drawing that is ready. */
        void seal() {
            int end = 0;
            folded = FOLD_START;
            for (int k = 0; k < size; k++) {
                write(k);
                for (int i = 0; i < lineSize; i++) {
                    folded = 31 * folded + line[i];
                }
                end += lineSize;
                ends[k] = end;
            }
        }

        int octetCount() {
            return has(size - 1) ? ends[size - 1] : 0;
        }

        int octetAt(int octet) {
            if (octet < 0 || octet >= octetCount()) {
                return NONE;
            }
            int start = 0;
            for (int k = 0; k < size; k++) {
                if (octet < ends[k]) {
                    write(k);
                    return octet - start < lineSize ? line[octet - start] : NONE;
                }
                start = ends[k];
            }
            return NONE;
        }

        private void write(int k) {
            int letter = valueAt(k, 0);
            int numbers = numbersOf(letter);
            lineSize = 0;
            writeOctet(letter);
            for (int i = 1; i <= numbers; i++) {
                writeOctet(' ');
                writeNumber(valueAt(k, i));
            }
            writeOctet(10);
        }

        private void writeOctet(int octet) {
            if (lineSize < LONGEST_LINE) {
                line[lineSize] = octet;
                lineSize++;
            }
        }

        private void writeNumber(int n) {
            long rest = Math.abs((long) n);
            if (n < 0) {
                writeOctet('-');
            }
            long unit = 1;
            for (int i = 1; i < MOST_DIGITS && unit * 10 <= rest; i++) {
                unit *= 10;
            }
            for (int i = 0; i < MOST_DIGITS && unit > 0; i++) {
                writeOctet('0' + (int) (rest / unit % 10));
                unit /= 10;
            }
        }
    }

    /** Makes the marks of a drawing, but for those of labels, and notes where each object's labels are anchored. */
    private static final class Painter {
        final Figures figures;
        final Points points;
        final Frame frame;
        final Marks marks;
        final Cutter cutter;
        /** Of each object: whether it has a mark (one that is lost, too), and its anchor then. */
        final boolean[] drawn = new boolean[Figures.MOST];
        final int[] anchorX = new int[Figures.MOST];
        final int[] anchorY = new int[Figures.MOST];
        /** The corners of the area at hand, and where its sides meet the hatch line at hand, as fractions, rising. */
        final int[] cornerX = new int[Figures.MOST_CORNERS];
        final int[] cornerY = new int[Figures.MOST_CORNERS];
        final long[] meetAbove = new long[Figures.MOST_CORNERS];
        final long[] meetBelow = new long[Figures.MOST_CORNERS];
        int corners;
        int meetings;

        Painter(Figures figures, Points points, Frame frame, Marks marks) {
            this.figures = figures;
            this.points = points;
            this.frame = frame;
            this.marks = marks;
            this.cutter = new Cutter(frame);
        }

        void begin() {
            marks.clear();
            marks.add(Marks.SHEET, frame.wide, frame.high, 0, 0, 0);
            for (int o = 0; o < Figures.MOST; o++) {
                drawn[o] = false;
            }
        }

        private void anchor(int o, int x, int y) {
            if (o >= 0 && o < Figures.MOST) {
                drawn[o] = true;
                anchorX[o] = x;
                anchorY[o] = y;
            }
        }

        boolean hasDrawn(int o) {
            return o >= 0 && o < Figures.MOST && drawn[o];
        }

        int anchorXOf(int o) {
            return hasDrawn(o) ? anchorX[o] : 0;
        }

        int anchorYOf(int o) {
            return hasDrawn(o) ? anchorY[o] : 0;
        }

        void paintGrid() {
            if (frame.gridStep <= 0) {
                return;
            }
            paintGridWay(frame.left, frame.right, true);
            paintGridWay(frame.bottom, frame.top, false);
        }

        /** A grid may have 80001 strokes a way: those that are lost are counted without going through them. */
        private void paintGridWay(int least, int most, boolean upright) {
            int step = frame.gridStep;
            int first = multipleFrom(least, step);
            int strokes = multiplesWithin(least, most, step);
            int kept = Math.min(strokes, Marks.MOST - marks.size);
            for (int i = 0; i < kept; i++) {
                paintGridStroke(first + i * step, upright);
            }
            marks.lose(strokes - kept);
        }

        private void paintGridStroke(int n, boolean upright) {
            if (upright) {
                int x = frame.sheetX(n, 1);
                marks.add(Marks.STROKE, x, frame.sheetY(frame.bottom, 1), x, frame.sheetY(frame.top, 1), 1);
            } else {
                int y = frame.sheetY(n, 1);
                marks.add(Marks.STROKE, frame.sheetX(frame.left, 1), y, frame.sheetX(frame.right, 1), y, 1);
            }
        }

        void paintAreas() {
            for (int o = 0; o < figures.size; o++) {
                if (figures.kindOf(o) == Figures.AREA && figures.isDrawn(o)) {
                    paintArea(o);
                }
            }
        }

        private void paintArea(int o) {
            takeCorners(o);
            anchorArea(o);
            int least = cornerY[0];
            int most = cornerY[0];
            boolean isUncut = true;
            for (int k = 0; k < corners; k++) {
                least = Math.min(least, cornerY[k]);
                most = Math.max(most, cornerY[k]);
                isUncut &= isWithin(cornerX[k], frame.left, frame.right);
            }
            int step = frame.hatchStep;
            int end = Math.min(most, frame.top);
            int y = multipleFrom(Math.max(least, frame.bottom), step);
            for (; step > 0 && y <= end; y += step) {
                if (isUncut && marks.isFull()) {
                    marks.lose(hatchStrokes(y, end));
                    return;
                }
                paintHatch(y, figures.styleOf(o));
            }
        }

        private void anchorArea(int o) {
            long sumX = 0;
            long sumY = 0;
            for (int k = 0; k < corners; k++) {
                sumX += frame.sheetX(cornerX[k], 1);
                sumY += frame.sheetY(cornerY[k], 1);
            }
            anchor(o, roundedDown(sumX, corners), roundedDown(sumY, corners));
        }

        /**
         * How many strokes an area has from one hatch line to another, if none of it is beyond the window's left and
         * right: half of the meetings of its sides. A thousand lost lines are not worth going through one by one.
         */
        private int hatchStrokes(int from, int to) {
            int sum = 0;
            for (int k = 0; k < corners; k++) {
                int next = k + 1 < corners ? k + 1 : 0;
                int least = Math.max(from, Math.min(cornerY[k], cornerY[next]));
                int most = Math.min(to, Math.max(cornerY[k], cornerY[next]) - 1);
                sum += multiplesWithin(least, most, frame.hatchStep);
            }
            return sum / 2;
        }

        private void takeCorners(int o) {
            corners = Math.min(figures.cornersOf(o), Figures.MOST_CORNERS);
            for (int k = 0; k < corners; k++) {
                cornerX[k] = figures.xOf(o, k);
                cornerY[k] = figures.yOf(o, k);
            }
        }

        private void paintHatch(int y, int style) {
            meetings = 0;
            for (int k = 0; k < corners; k++) {
                int next = k + 1 < corners ? k + 1 : 0;
                if (cornerY[k] <= y != cornerY[next] <= y) {
                    meetSide(k, next, y);
                }
            }
            for (int i = 0; i + 1 < meetings; i += 2) {
                paintHatchStroke(i, y, style);
            }
        }

        private void meetSide(int p, int q, int y) {
            long below = cornerY[q] - cornerY[p];
            long above = cornerX[p] * below + (long) (y - cornerY[p]) * (cornerX[q] - cornerX[p]);
            if (below < 0) {
                below = -below;
                above = -above;
            }
            if (meetings >= Figures.MOST_CORNERS) {
                return;
            }
            int i = meetings;
            for (; i > 0 && above * meetBelow[i - 1] < meetAbove[i - 1] * below; i--) {
                meetAbove[i] = meetAbove[i - 1];
                meetBelow[i] = meetBelow[i - 1];
            }
            meetAbove[i] = above;
            meetBelow[i] = below;
            meetings++;
        }

        private void paintHatchStroke(int i, int y, int style) {
            if (i < 0 || i + 1 >= Figures.MOST_CORNERS) {
                return;
            }
            boolean isCutLeft = meetAbove[i] < frame.left * meetBelow[i];
            boolean isCutRight = meetAbove[i + 1] > frame.right * meetBelow[i + 1];
            long fromAbove = isCutLeft ? frame.left : meetAbove[i];
            long fromBelow = isCutLeft ? 1 : meetBelow[i];
            long toAbove = isCutRight ? frame.right : meetAbove[i + 1];
            long toBelow = isCutRight ? 1 : meetBelow[i + 1];
            if (fromAbove * toBelow > toAbove * fromBelow) {
                return;
            }
            if (marks.isFull()) {
                marks.lose(1);
                return;
            }
            int sheetY = frame.sheetY(y, 1);
            marks.add(Marks.STROKE, frame.sheetX(fromAbove, fromBelow), sheetY, frame.sheetX(toAbove, toBelow), sheetY, style);
        }

        void paintOthers() {
            for (int o = 0; o < figures.size; o++) {
                if (figures.kindOf(o) != Figures.AREA && figures.isDrawn(o)) {
                    paintOther(o);
                }
            }
        }

        private void paintOther(int o) {
            switch (figures.kindOf(o)) {
                case Figures.DOT:
                    paintDot(o);
                    break;
                case Figures.PIECE:
                case Figures.LINE:
                case Figures.RAY:
                    paintStraight(o);
                    break;
                case Figures.CIRCLE:
                    paintCircle(o);
                    break;
                case Figures.ANGLE:
                    paintAngle(o);
                    break;
                case Figures.TICKS:
                    paintTicks(o);
                    break;
                default:
                    break;
            }
        }

        private void paintDot(int o) {
            int x = figures.xOf(o, 0);
            int y = figures.yOf(o, 0);
            if (!frame.holds(x, y, 1)) {
                return;
            }
            int sheetX = frame.sheetX(x, 1);
            int sheetY = frame.sheetY(y, 1);
            marks.add(Marks.DOT, sheetX, sheetY, figures.styleOf(o), 0, 0);
            anchor(o, sheetX, sheetY);
        }

        private void paintStraight(int o) {
            cutter.setWay(figures.xOf(o, 0), figures.yOf(o, 0), figures.xOf(o, 1), figures.yOf(o, 1));
            if (!cutter.cut(figures.kindOf(o))) {
                return;
            }
            int x1 = cutter.firstX();
            int y1 = cutter.firstY();
            int x2 = cutter.lastX();
            int y2 = cutter.lastY();
            marks.add(Marks.STROKE, x1, y1, x2, y2, figures.styleOf(o));
            anchor(o, roundedDown(x1 + x2, 2), roundedDown(y1 + y2, 2));
        }

        private void paintCircle(int o) {
            int x = figures.xOf(o, 0);
            int y = figures.yOf(o, 0);
            long square = figures.squareOfSpan(o);
            if (!frame.meetsCircle(x, y, square)) {
                return;
            }
            int sheetX = frame.sheetX(x, 1);
            int sheetY = frame.sheetY(y, 1);
            int radius = frame.sheetLength(square);
            int part = frame.holdsCircle(x, y, square) ? 0 : 1;
            marks.add(Marks.CIRCLE, sheetX, sheetY, radius, part, figures.styleOf(o));
            anchor(o, sheetX, sheetY - radius);
        }

        private void paintAngle(int o) {
            int x = figures.xOf(o, 1);
            int y = figures.yOf(o, 1);
            if (!frame.holds(x, y, 1)) {
                return;
            }
            int fromX = figures.xOf(o, 0) - x;
            int fromY = figures.yOf(o, 0) - y;
            int toX = figures.xOf(o, 2) - x;
            int toY = figures.yOf(o, 2) - y;
            int sheetX = frame.sheetX(x, 1);
            int sheetY = frame.sheetY(y, 1);
            int opening = openingOf(fromX, fromY, toX, toY);
            marks.add(Marks.ANGLE, sheetX, sheetY, octant(fromX, fromY), octant(toX, toY), opening);
            anchor(o, sheetX, sheetY);
        }

        private static int openingOf(long fromX, long fromY, long toX, long toY) {
            long across = fromX * toY - fromY * toX;
            long along = fromX * toX + fromY * toY;
            if (across == 0) {
                return along < 0 ? 3 : 4;
            }
            return along > 0 ? 0 : along == 0 ? 1 : 2;
        }

        private void paintTicks(int o) {
            int doubleX = figures.xOf(o, 0) + figures.xOf(o, 1);
            int doubleY = figures.yOf(o, 0) + figures.yOf(o, 1);
            if (!frame.holds(doubleX, doubleY, 2)) {
                return;
            }
            int sheetX = frame.sheetX(doubleX, 2);
            int sheetY = frame.sheetY(doubleY, 2);
            int way = octant(figures.xOf(o, 1) - figures.xOf(o, 0), figures.yOf(o, 1) - figures.yOf(o, 0));
            marks.add(Marks.TICKS, sheetX, sheetY, figures.strokesOf(o), way, 0);
            anchor(o, sheetX, sheetY);
        }

        void paintSolids(Solids solids) {
            if (figures.isHidden(Figures.HIDDEN_SOLIDS)) {
                return;
            }
            for (int s = 0; s < solids.size; s++) {
                Solid solid = solids.find(s);
                if (solid != null) {
                    paintSolid(solid, solids.view);
                }
            }
        }

        private void paintSolid(Solid solid, int view) {
            int seen = solid.facesSeen(view);
            for (int pair = 0; pair < Solid.PAIRS; pair++) {
                if (solid.isEdge(pair)) {
                    boolean behind = solid.isBehind(pair, seen);
                    if (!behind || !figures.isHidden(Figures.HIDDEN_BEHIND)) {
                        paintEdge(solid, pair, view, behind ? 1 : 0);
                    }
                }
            }
        }

        private void paintEdge(Solid solid, int pair, int view, int style) {
            int x = points.xNow(solid.point);
            int y = points.yNow(solid.point);
            int v = Solid.lesserOf(pair);
            int w = Solid.greaterOf(pair);
            cutter.setWay(x + solid.acrossOf(v, view), y + solid.risingOf(v, view),
                x + solid.acrossOf(w, view), y + solid.risingOf(w, view));
            boolean hasTwoPlaces = cutter.wayX != 0 || cutter.wayY != 0;
            if (hasTwoPlaces && cutter.cut(Figures.PIECE)) {
                marks.add(Marks.STROKE, cutter.firstX(), cutter.firstY(), cutter.lastX(), cutter.lastY(), style);
            }
        }
    }

    /** Labels, and what the drawing tells of them. */
    private static final class Labels {
        static final int MOST = 20, MOST_LETTERS = 8, OUT = 8;

        final int[] objects = new int[MOST];
        final int[] letters = new int[MOST];
        final int[] drawnPlaces = new int[MOST];
        int size;
        int drawnSize;
        int drawnOut;
        int drawnCost;
        int drawnRounds;

        boolean has(int l) {
            return l >= 0 && l < size && l < MOST;
        }

        boolean isFull() {
            return size >= MOST;
        }

        int add(int o, int n) {
            if (isFull()) {
                return FULL;
            }
            objects[size] = o;
            letters[size] = n;
            size++;
            return size - 1;
        }

        int objectOf(int l) {
            return has(l) ? objects[l] : NONE;
        }

        int lettersOf(int l) {
            return has(l) ? letters[l] : 0;
        }

        int drawnPlaceOf(int l) {
            return has(l) && l < drawnSize ? drawnPlaces[l] : NONE;
        }

        /** All are out until they are placed. */
        void beginDrawing() {
            drawnSize = size;
            drawnOut = size;
            drawnCost = 0;
            drawnRounds = 0;
            for (int l = 0; l < MOST; l++) {
                drawnPlaces[l] = OUT;
            }
        }

        void place(int l, int place, int cost) {
            if (has(l)) {
                drawnPlaces[l] = place;
                drawnOut--;
                drawnCost += cost;
            }
        }
    }

    /**
     * Finds the labels' places. Labels whose object is drawn are its guests, numbered from 0 on in the
     * labels' order; the box of guest i on place p has the number i * PLACES + p.
     */
    private static final class Placer {
        private static final int PLACES = 8, OUT = Labels.OUT, FEW = 6, MOST_ROUNDS = 10;
        private static final int LETTER_WIDE = 6, BOX_HIGH = 9, DOT_COST = 10, STROKE_COST = 4, NOT_OPEN = -1;
        private static final int BOXES = Labels.MOST * PLACES;
        private static final int[] TOP_FROM_ANCHOR = {-4, -11, -12, -11, -4, 2, 3, 2};

        final Labels labels;
        final Painter painter;
        final Marks marks;
        final Frame frame;
        final int[] guests = new int[Labels.MOST];
        final int[] wide = new int[Labels.MOST];
        final int[] chosen = new int[Labels.MOST];
        final int[] lefts = new int[BOXES];
        final int[] tops = new int[BOXES];
        /** Of each box its cost, or NOT_OPEN. */
        final int[] costs = new int[BOXES];
        final int[] best = new int[FEW];
        /** What the guests from each one on cost at least, and how many of them have no open place at all. */
        final int[] leastCostFrom = new int[FEW + 1];
        final int[] leastOutFrom = new int[FEW + 1];
        int size;
        int bestOut;
        int bestCost;

        Placer(Labels labels, Painter painter, Marks marks, Frame frame) {
            this.labels = labels;
            this.painter = painter;
            this.marks = marks;
            this.frame = frame;
        }

        void placeAll() {
            labels.beginDrawing();
            gatherGuests();
            for (int i = 0; i < size; i++) {
                setBoxes(i);
            }
            addCostsOfMarks();
            if (size <= FEW) {
                findBest();
            } else {
                labels.drawnRounds = goRounds();
            }
            for (int i = 0; i < size; i++) {
                markGuest(i);
            }
        }

        private void gatherGuests() {
            size = 0;
            for (int l = 0; l < labels.size; l++) {
                if (painter.hasDrawn(labels.objectOf(l)) && size < Labels.MOST) {
                    guests[size] = l;
                    wide[size] = LETTER_WIDE * labels.lettersOf(l);
                    chosen[size] = OUT;
                    size++;
                }
            }
        }

        private void setBoxes(int i) {
            int o = labels.objectOf(guests[i]);
            int x = painter.anchorXOf(o);
            int y = painter.anchorYOf(o);
            for (int place = 0; place < PLACES; place++) {
                int box = i * PLACES + place;
                int left = x + leftFromAnchor(place, wide[i]);
                int top = y + TOP_FROM_ANCHOR[place];
                boolean isOpen = left >= 0 && top >= 0 && left + wide[i] <= frame.wide && top + BOX_HIGH <= frame.high;
                lefts[box] = left;
                tops[box] = top;
                costs[box] = isOpen ? place : NOT_OPEN;
            }
        }

        private static int leftFromAnchor(int place, int w) {
            switch (place) {
                case 0: return 3;
                case 1: return 2;
                case 2: return -(w / 2);
                case 3: return -2 - w;
                case 4: return -3 - w;
                case 5: return -2 - w;
                case 6: return -(w / 2);
                default: return 2;
            }
        }

        private void addCostsOfMarks() {
            for (int k = 0; k < marks.size; k++) {
                int letter = marks.valueAt(k, 0);
                int x = marks.valueAt(k, 1);
                int y = marks.valueAt(k, 2);
                if (letter == Marks.DOT) {
                    addCostOfStroke(x, y, x, y, DOT_COST);
                } else if (letter == Marks.STROKE) {
                    addCostOfStroke(x, y, marks.valueAt(k, 3), marks.valueAt(k, 4), STROKE_COST);
                }
            }
        }

        /** A dot is a stroke of one place here. Most strokes miss most boxes, so what is cheap to see comes first. */
        private void addCostOfStroke(int x1, int y1, int x2, int y2, int cost) {
            int leastX = Math.min(x1, x2);
            int mostX = Math.max(x1, x2);
            int leastY = Math.min(y1, y2);
            int mostY = Math.max(y1, y2);
            for (int box = 0; box < size * PLACES; box++) {
                int right = lefts[box] + wide[box / PLACES] - 1;
                int bottom = tops[box] + BOX_HIGH - 1;
                boolean isNear = costs[box] != NOT_OPEN && mostX >= lefts[box] && leastX <= right
                    && mostY >= tops[box] && leastY <= bottom;
                if (isNear && !isAside(box, x1, y1, x2 - x1, y2 - y1)) {
                    costs[box] += cost;
                }
            }
        }

        /** Whether a box is all to one side of the line from x, y on the way wayX, wayY. */
        private boolean isAside(int box, int x, int y, long wayX, long wayY) {
            if (box < 0 || box >= BOXES) {
                return true;
            }
            int left = lefts[box] - x;
            int top = tops[box] - y;
            int right = left + wide[box / PLACES] - 1;
            int bottom = top + BOX_HIGH - 1;
            long a = wayX * top - wayY * left;
            long b = wayX * top - wayY * right;
            long c = wayX * bottom - wayY * left;
            long d = wayX * bottom - wayY * right;
            return a > 0 && b > 0 && c > 0 && d > 0 || a < 0 && b < 0 && c < 0 && d < 0;
        }

        private int costOf(int i, int place) {
            return i >= 0 && i < size && place >= 0 && place < PLACES ? costs[i * PLACES + place] : NOT_OPEN;
        }

        /** Whether a guest may take a place, as the first ones of all guests (but itself) have chosen. */
        private boolean isFree(int i, int place, int others) {
            if (costOf(i, place) == NOT_OPEN) {
                return false;
            }
            for (int j = 0; j < others; j++) {
                if (j != i && chosen[j] != OUT && meet(i, place, j)) {
                    return false;
                }
            }
            return true;
        }

        private boolean meet(int i, int place, int j) {
            int box = i * PLACES + place;
            int other = j * PLACES + chosen[j];
            return lefts[box] < lefts[other] + wide[j] && lefts[other] < lefts[box] + wide[i]
                && tops[box] < tops[other] + BOX_HIGH && tops[other] < tops[box] + BOX_HIGH;
        }

        private void findBest() {
            leastCostFrom[size] = 0;
            leastOutFrom[size] = 0;
            for (int i = size - 1; i >= 0; i--) {
                int least = leastCostOf(i);
                leastCostFrom[i] = leastCostFrom[i + 1] + (least == NOT_OPEN ? 0 : least);
                leastOutFrom[i] = leastOutFrom[i + 1] + (least == NOT_OPEN ? 1 : 0);
            }
            boundByRounds();
            search(0, 0, 0);
            for (int i = 0; i < size; i++) {
                chosen[i] = best[i];
            }
        }

        /** What rounds would find is allowed, so the best is not worse: the search looks for less than 1 above that. */
        private void boundByRounds() {
            goRounds();
            bestOut = 0;
            bestCost = 1;
            for (int i = 0; i < size; i++) {
                bestOut += chosen[i] == OUT ? 1 : 0;
                bestCost += chosen[i] == OUT ? 0 : costOf(i, chosen[i]);
            }
        }

        private int leastCostOf(int i) {
            int least = NOT_OPEN;
            for (int place = 0; place < PLACES; place++) {
                int cost = costOf(i, place);
                if (cost != NOT_OPEN && (least == NOT_OPEN || cost < least)) {
                    least = cost;
                }
            }
            return least;
        }

        /** Goes through all ways by their rows, rising, so of equal ones the first that is met stays. */
        private void search(int i, int out, int cost) {
            if (i < 0 || i > size || i > FEW) {
                return;
            }
            int leastOut = out + leastOutFrom[i];
            if (leastOut > bestOut || leastOut == bestOut && cost + leastCostFrom[i] >= bestCost) {
                return;
            }
            if (i == size) {
                keepAsBest(out, cost);
                return;
            }
            for (int place = 0; place < PLACES; place++) {
                if (isFree(i, place, i)) {
                    chosen[i] = place;
                    search(i + 1, out, cost + costOf(i, place));
                }
            }
            chosen[i] = OUT;
            search(i + 1, out + 1, cost);
        }

        private void keepAsBest(int out, int cost) {
            bestOut = out;
            bestCost = cost;
            for (int i = 0; i < size && i < FEW; i++) {
                best[i] = chosen[i];
            }
        }

        /** How many rounds there were. */
        private int goRounds() {
            int rounds = 0;
            boolean changed = true;
            while (changed && rounds < MOST_ROUNDS) {
                changed = false;
                for (int i = 0; i < size; i++) {
                    int place = cheapestFree(i);
                    changed |= place != chosen[i];
                    chosen[i] = place;
                }
                rounds++;
            }
            return rounds;
        }

        private int cheapestFree(int i) {
            int cheapest = OUT;
            for (int place = 0; place < PLACES; place++) {
                boolean isCheaper = cheapest == OUT || costOf(i, place) < costOf(i, cheapest);
                if (isCheaper && isFree(i, place, size)) {
                    cheapest = place;
                }
            }
            return cheapest;
        }

        private void markGuest(int i) {
            int place = chosen[i];
            if (place < 0 || place >= PLACES) {
                return;
            }
            int l = guests[i];
            int box = i * PLACES + place;
            labels.place(l, place, costs[box]);
            marks.add(Marks.WORD, lefts[box], tops[box], labels.lettersOf(l), l, 0);
        }
    }

    /** Rows of places for objects. */
    private static final class Groups {
        static final int MOST = 6, MOST_PLACES = 64, ALL_KINDS = 8;

        final boolean[] made = new boolean[MOST];
        final int[] kinds = new int[MOST];
        final int[] sizes = new int[MOST];
        final int[] members = new int[MOST * MOST_PLACES];

        static boolean isNumber(int g) {
            return g >= 0 && g < MOST;
        }

        boolean isMade(int g) {
            return isNumber(g) && made[g];
        }

        int placesOf(int g) {
            return isMade(g) ? sizes[g] : 0;
        }

        boolean hasPlace(int g, int i) {
            return i >= 0 && i < placesOf(g) && i < MOST_PLACES;
        }

        boolean takes(int g, int kind) {
            return isMade(g) && (kinds[g] == ALL_KINDS || kinds[g] == kind);
        }

        void make(int g, int kind, int n) {
            if (!isNumber(g) || n < 0 || n > MOST_PLACES) {
                return;
            }
            made[g] = true;
            kinds[g] = kind;
            sizes[g] = n;
            for (int i = 0; i < n; i++) {
                members[g * MOST_PLACES + i] = NONE;
            }
        }

        int memberAt(int g, int i) {
            return hasPlace(g, i) ? members[g * MOST_PLACES + i] : NONE;
        }

        void setMember(int g, int i, int o) {
            if (hasPlace(g, i)) {
                members[g * MOST_PLACES + i] = o;
            }
        }
    }
}
