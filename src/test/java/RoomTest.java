import java.lang.management.ManagementFactory;

/** What an object and its calls make: those of all objects live in one room of 600,000. */
public final class RoomTest {
    private static final Check check = new Check();
    private static long sink = 0;

    public static void main(String[] args) {
        com.sun.management.ThreadMXBean bean = (com.sun.management.ThreadMXBean) ManagementFactory.getThreadMXBean();
        long thread = Thread.currentThread().getId();
        useOf(new LeastCurves());
        long before = bean.getThreadAllocatedBytes(thread);
        LeastCurves x = new LeastCurves();
        long made = bean.getThreadAllocatedBytes(thread);
        useOf(x);
        long used = bean.getThreadAllocatedBytes(thread);
        System.out.println("a new object takes " + (made - before) + " bytes, its calls take " + (used - made));
        check.due("a new object takes less than 40,000 bytes", made - before < 40000 ? 1 : 0, 1);
        check.due("calls take next to nothing", used - made < 4000 ? 1 : 0, 1);
        check.due("answers", sink != 0 ? 1 : 0, 1);
        check.end("RoomTest");
    }

    private static void useOf(LeastCurves x) {
        String text = "0:0,1+x,1+y,4+2x,3+x+y,4+2y,9+3x,7+2x+y,7+x+2y,9+3y;1:1,x,y,3+x+y";
        for (int k = 0; k < text.length(); k++) {
            sink += x.write(text.charAt(k));
        }
        sink += x.fault() + x.curves();
        for (int round = 0; round < 10; round++) {
            sink += x.put(round % 2, 1, 1, round) + x.move(0, 1, -1) + x.mirror(1) + x.join(0);
            sink += x.times(1) + x.undo() + x.undo() + x.keep(round % 2) + x.undo() + x.back(round % 2);
            for (int what = 0; what < 7; what++) {
                sink += x.tally(what) + x.count(0, what) + x.lift(1, 1, 1);
            }
            sink += x.way(0, 0, 2, 0) + x.corner(0, 0, 4) + x.edge(0, 0, 9) + x.region(0, 1, 1, 2) + x.meeting(0, 5);
            sink += x.value(0, 1, 2, 3, 1) + x.term(0, 1, 1) + x.drop(0, 0, 0) + x.erase();
        }
    }
}
