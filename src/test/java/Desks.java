/** Desks to begin a test with. */
final class Desks {
    private Desks() {
    }

    /** A new desk with POINTS at x, y, x, y ... */
    static DrawLabels points(int... xy) {
        DrawLabels d = new DrawLabels();
        add(d, xy);
        return d;
    }

    static void add(DrawLabels d, int... xy) {
        for (int k = 0; k + 1 < xy.length; k += 2) {
            d.point(xy[k], xy[k + 1]);
        }
    }

    /** A desk whose SHEET is w by h and shows x, y at X = x, Y = h - y. */
    static DrawLabels sheet(int w, int h, int... xy) {
        DrawLabels d = points(xy);
        d.sheet(w, h, 0);
        d.window(0, w, 0, h);
        return d;
    }

    /** A DOT at each of x, y, x, y ..: POINT k has DOT k. */
    static void dots(DrawLabels d, int... xy) {
        for (int k = 0; k + 1 < xy.length; k += 2) {
            d.object(0, d.point(xy[k], xy[k + 1]), 0, 0);
        }
    }

    static int area(DrawLabels d, int... points) {
        for (int p : points) {
            d.corner(p);
        }
        return d.area();
    }

    /** An AREA of new POINTS. */
    static int areaAt(DrawLabels d, int... xy) {
        for (int k = 0; k + 1 < xy.length; k += 2) {
            d.corner(d.point(xy[k], xy[k + 1]));
        }
        return d.area();
    }

    /** One OBJECT of each KIND, by KIND, on POINTS 0, 1, 2, that has not FALLEN. */
    static DrawLabels eachKind() {
        DrawLabels d = points(10, 10, 13, 14, 20, 10);
        for (int kind = 0; kind < 7; kind++) {
            d.object(kind, 0, 1, kind == 6 ? 1 : 2);
        }
        area(d, 0, 1, 2);
        return d;
    }

    /** The MARKS of a new DRAWING behind F, each on a line. */
    static String drawn(DrawLabels d) {
        d.draw();
        String text = Due.text(d);
        return text.substring(text.indexOf('\n') + 1);
    }

    /** The MARKS of a new DRAWING that have this letter. */
    static String drawn(DrawLabels d, char letter) {
        StringBuilder all = new StringBuilder();
        for (String line : drawn(d).split("\n")) {
            if (!line.isEmpty() && line.charAt(0) == letter) {
                all.append(line).append('\n');
            }
        }
        return all.toString();
    }
}
