import java.util.Random;

/** No call may throw, whatever it is given and whenever it comes. */
public final class HarshCallsTest {
    private static final int[] HARSH = {Integer.MIN_VALUE, Integer.MIN_VALUE + 1, -100003, -100001, -20001, -1, 0, 1, 2, 3, 5, 7, 8, 9,
        12, 15, 16, 40, 60, 64, 65, 100, 400, 600, 1000, 20000, 40000, 40001, 1 << 30, Integer.MAX_VALUE};

    public static void main(String[] args) {
        for (int seed = 0; seed < 400; seed++) {
            Random random = new Random(seed);
            DrawLabels d = new DrawLabels();
            int tame = random.nextInt(12) + 1;
            for (int k = 0; k < 512; k++) {
                int which = random.nextInt(38);
                int[] n = new int[4];
                for (int i = 0; i < 4; i++) {
                    n[i] = random.nextInt(tame) == 0 ? HARSH[random.nextInt(HARSH.length)] : random.nextInt(8);
                }
                try {
                    call(d, which, n);
                } catch (RuntimeException thrown) {
                    thrown.printStackTrace(System.out);
                    Due.due("seed " + seed + " call " + which + " threw", 1, 0);
                }
            }
        }
        Due.end();
    }

    private static double call(DrawLabels d, int which, int[] n) {
        switch (which) {
            case 0: return d.point(n[0], n[1]);
            case 1: return d.move(n[0], n[1], n[2]);
            case 2: return d.tick(n[0]);
            case 3: return d.at(n[0], n[1]);
            case 4: return d.object(n[0], n[1], n[2], n[3]);
            case 5: return d.corner(n[0]);
            case 6: return d.area();
            case 7: return d.style(n[0], n[1]);
            case 8: return d.hide(n[0], n[1] % 2 == 0);
            case 9: return d.fallen(n[0]);
            case 10: return d.measure(n[0]);
            case 11: return d.window(n[0], n[1], n[2], n[3]);
            case 12: return d.fit();
            case 13: return d.side(n[0]);
            case 14: return d.sheet(n[0], n[1], n[2]);
            case 15: return d.grid(n[0]);
            case 16: return d.hatch(n[0]);
            case 17: return d.scale(n[0] % 2 == 0);
            case 18: return d.single(n[0], n[1]);
            case 19: return d.solid(n[0], n[1]);
            case 20: return d.vertex(n[0], n[1], n[2], n[3]);
            case 21: return d.face(n[0], n[1], n[2] ^ n[3] << 8);
            case 22: return d.view(n[0]);
            case 23: return d.edge(n[0], n[1], n[2]);
            case 24: return d.label(n[0], n[1]);
            case 25: case 26: return d.draw();
            case 27: return d.mark(n[0], n[1]);
            case 28: return d.placed(n[0]);
            case 29: return d.octet(n[0]);
            case 30: return d.digest();
            case 31: return d.count(n[0]);
            case 32: return d.code();
            case 33: return d.group(n[0], n[1], n[2]);
            case 34: return d.put(n[0], n[1], n[2]);
            case 35: return d.member(n[0], n[1]);
            case 36: return d.paint(n[0], n[1]);
            default: return d.reach(n[0]);
        }
    }
}
