import java.lang.management.ManagementFactory;

/** The room of a run: once an object is made its calls make nothing more, and an object itself is small. */
public final class RoomTest {
    private static final com.sun.management.ThreadMXBean BEAN =
        (com.sun.management.ThreadMXBean) ManagementFactory.getThreadMXBean();
    private static long sum = 0;

    public static void main(String[] args) {
        MayorsChair x = new MayorsChair();
        // Once ahead, so that what the machine itself loads is not counted.
        everyCall(x);
        allocated();
        long before = allocated();
        for (int i = 0; i < 20; i++) {
            everyCall(x);
        }
        long made = allocated() - before;
        Check.holds("rule 12: calls make nothing, not " + made + " bytes", made < 4096);
        before = allocated();
        for (int i = 0; i < 100; i++) {
            sum += new MayorsChair().count(4);
        }
        long each = (allocated() - before) / 100;
        Check.holds("an object has some 100 objects and 900 elements, not " + each + " bytes", each < 12000);
        Check.holds("answers were used", sum != 0);
        Check.finish("RoomTest");
    }

    private static long allocated() {
        return BEAN.getCurrentThreadAllocatedBytes();
    }

    private static void everyCall(MayorsChair x) {
        x.wipe();
        String text = "s0,20,2;s1,8,1;s2,14,3;s3,10,1;s0,0,0;s1,9,9;w1;w2;w3;w4;w5;w6;";
        for (int i = 0; i < text.length(); i++) {
            sum += x.write(text.charAt(i));
        }
        sum += x.fault() + x.lay() + x.street(0, 3) + x.work(0) + x.pass(20) + x.mud(0, 1) + x.give(0, 1, 1) + x.change(0, 1);
        sum += x.keep() + x.undo() + x.behind(60, 0, 0) + x.first(0) + x.even(0) + x.order(9, 0) + x.paint(0) + x.help(40, 40, 0);
        sum += x.seen(40, 0) + x.kinds(0) + x.uses(0) + x.forget() + x.likely(0, 8, 5, 0) + x.decade(9999, 60, 0) + x.back() + x.count(0);
        for (int i = 0; i < 12; i++) {
            sum += x.mud(1, i + 1);
        }
    }
}
