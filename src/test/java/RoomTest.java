import com.sun.management.ThreadMXBean;
import java.lang.management.ManagementFactory;

/** All calls of a run live in one room: a desk takes little of it, and its calls none (but for a SOLID, once). */
public final class RoomTest {
    public static void main(String[] args) {
        ThreadMXBean bean = (ThreadMXBean) ManagementFactory.getThreadMXBean();
        fill(new DrawLabels());
        long start = bean.getThreadAllocatedBytes(Thread.currentThread().getId());
        DrawLabels d = new DrawLabels();
        long made = bean.getThreadAllocatedBytes(Thread.currentThread().getId());
        fill(d);
        long filled = bean.getThreadAllocatedBytes(Thread.currentThread().getId());
        Due.due("a desk above 40000 bytes: " + (made - start), made - start > 40000 ? 1 : 0, 0);
        Due.due("its calls above 8000 bytes: " + (filled - made), filled - made > 8000 ? 1 : 0, 0);
        Due.end();
    }

    private static void fill(DrawLabels d) {
        for (int p = 0; p < 60; p++) {
            d.point(p * 37 % 101, p * 53 % 101);
        }
        for (int o = 0; o < 35; o++) {
            d.object(o % 7, o, o + 1, o % 7 == 6 ? 1 : o + 2);
        }
        for (int k = 0; k < 12; k++) {
            d.corner(k);
        }
        d.area();
        for (int s = 0; s < 4; s++) {
            d.solid(s, 1);
            for (int v = 0; v < 12; v++) {
                d.vertex(s, v * 31 % 60, v * 17 % 60, v);
            }
            d.face(s, 6, 0x543210);
        }
        for (int l = 0; l < 20; l++) {
            d.label(l, 1 + l % 8);
        }
        d.group(0, 8, 64);
        d.grid(3);
        for (int k = 0; k < 200; k++) {
            d.tick(k % 100);
            d.draw();
            d.digest();
            d.octet(k);
            d.single(k % 60, 2);
        }
    }
}
