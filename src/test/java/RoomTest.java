import java.lang.management.ManagementFactory;

/** The dearest calls, 512 of each, make no objects: all rows are made with the object. */
public final class RoomTest {
    private static final com.sun.management.ThreadMXBean BEAN =
            (com.sun.management.ThreadMXBean) ManagementFactory.getThreadMXBean();

    public static void main(String[] args) {
        // A first object loads the classes, which is not the object's own room.
        Check.kitchen("j;h");
        long before = bytes();
        long idle = bytes() - before;
        before = bytes();
        TightLid lid = new TightLid();
        long made = bytes() - before - idle;
        Check.due("an object takes " + made + " bytes, at most 40000", made <= 40000, true);
        Check.text(lid, 0, "jv99s99g99c9;jl1;jw9;j;h;h;hw9;h;h;h;t;t;t;t");
        Check.text(lid, 1, "y:!(p>[s+w]*2|i=c&a<3)?[p+a]*[s-w]/[i+c];y:p+a-w*4-c");
        Check.text(lid, 2, "t;k;o;h;w;d0;y09;y14;t;t;t;t;t;t;t;t");
        lid.law(0);
        for (int kind = 0; kind < 6; kind++) {
            calls(lid, kind, 2);
            before = bytes();
            calls(lid, kind, 512);
            long more = bytes() - before - idle;
            Check.due("calls of kind " + kind + " made " + more + " bytes, at most 4096", more <= 4096, true);
        }
        Check.end();
    }

    private static long bytes() {
        return BEAN.getCurrentThreadAllocatedBytes();
    }

    private static void calls(TightLid lid, int kind, int many) {
        for (int i = 0; i < many; i++) {
            switch (kind) {
                case 0:
                    lid.soonest(3, true, 0);
                    break;
                case 1:
                    lid.order(0);
                    lid.share(i % 6);
                    lid.best(true);
                    lid.run(0, 2);
                    break;
                case 2:
                    lid.saves(i % 4, 1);
                    lid.factory(0, 0, 50);
                    lid.enough(1, 0);
                    break;
                case 3:
                    lid.evening(40, i);
                    lid.image();
                    lid.undo();
                    break;
                case 4:
                    lid.fault(i % 3);
                    lid.feed(0x6A3B6800, 0, 0, 0, 0);
                    break;
                default:
                    lid.tried(i, false);
                    lid.tight(i % 3);
                    lid.next(i);
            }
        }
    }
}
