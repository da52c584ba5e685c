import com.sun.management.ThreadMXBean;
import java.lang.management.ManagementFactory;

/** All calls of a run live in one room: a new object takes little of it, and its calls take none. */
public final class RoomTest {
    private static final int MOST_BYTES_OF_AN_OBJECT = 16384;
    private static final String TEXT = "7x7;m00;m01;s02;s10;r11;m20;s61;o66;o65;o64;t01=3;t02=5;t13=2;t24=3;t35=1;t04=3";
    private static final ThreadMXBean ROOM = (ThreadMXBean) ManagementFactory.getThreadMXBean();

    public static void main(String[] args) {
        long warm = answers(new PinAtlas());
        long start = ROOM.getCurrentThreadAllocatedBytes();
        PinAtlas x = new PinAtlas();
        long made = ROOM.getCurrentThreadAllocatedBytes();
        long sum = answers(x);
        long end = ROOM.getCurrentThreadAllocatedBytes();
        Due.is("bytes of calls", end - made, 0);
        Due.is("an object of " + (made - start) + " bytes is small", made - start <= MOST_BYTES_OF_AN_OBJECT ? 1 : 0, 1);
        Due.is("the same calls, the same answers", sum, warm);
        Due.end();
    }

    /** Every call of the face, some 500 in all; folded to one number, for nothing may be made here either. */
    private static long answers(PinAtlas x) {
        long sum = 0;
        for (int k = 0; k < TEXT.length(); k++) {
            sum = sum * 31 + x.type(TEXT.charAt(k));
        }
        sum = sum * 31 + x.read();
        for (int k = 0; k < 8; k++) {
            int p = k % 7;
            sum = sum * 31 + x.of(p, k % 4) + x.at(k, k % 5) + x.cell(k * 6) + x.count(k);
            sum = sum * 31 + x.days(1 + k) + x.out(p) + x.place(p, 48, 1) + x.put(p, k * 5) + x.cut(k);
            sum = sum * 31 + x.course(p, k % 4) + x.drift(k + 1) + x.undo() + x.seed(k * 77777) + x.ahead(p, 60);
            sum = sum * 31 + x.holes(60) + x.comes(p, 48) + x.side(p, 0) + x.hole(p, 48, 0) + x.cuts(p, 48, 1);
            sum = sum * 31 + x.nearest(k * 6, 0) + x.bound(p) + x.between(p, 0) + x.which(k % 2);
            sum = sum * 31 + x.breaks(p, 48, 30, 5, 0) + x.image() + x.restore() + x.sheet(k % 4, k % 4, 24);
            sum = sum * 31 + x.film(p, 24, k % 4, k % 4, 0) + x.felt(p, k % 4, k % 4, 0, 8, 1) + x.item(k % 4, k % 4, 3, 9);
            sum = sum * 31 + x.copy(k % 4, 0, k % 4, 2, 8) + x.drop((k + 2) % 4);
        }
        sum = sum * 31 + x.cushion(5, 5) + x.pin(4, 3) + x.pin(1, 9) + x.thread(0, 1, 7) + x.days(40);
        return sum;
    }
}
