import java.lang.management.ManagementFactory;

/** All rows are made with the object: some 350 of the dearest calls make next to nothing more. */
final class RoomTest {
    private static final Check CHECK = new Check("RoomTest");

    public static void main(String[] args) {
        made(full(), 8);
        long bytes = made(full(), 50);
        CHECK.due("few bytes are made by calls, not " + bytes, bytes < 2000 ? 1 : 0, 1);
        CHECK.end();
    }

    private static WordsLent full() {
        WordsLent x = Check.full();
        for (int i = 0; i < 8; i++) {
            x.echo(i, i);
            x.tally(23 - i, i, x.stands(23 - i, i, 1));
        }
        return x;
    }

    private static long made(WordsLent x, int calls) {
        com.sun.management.ThreadMXBean bean = (com.sun.management.ThreadMXBean) ManagementFactory.getThreadMXBean();
        long before = bean.getCurrentThreadAllocatedBytes();
        long due = x.digest();
        int other = 0;
        for (int i = 0; i < calls; i++) {
            x.sheet(0, 2, 60);
            x.write(0, 0);
            x.copy(0, 0, 0, 1, 59);
            x.read(0);
            x.undo(2);
            x.type(2, '7');
            other += x.digest() == due ? 0 : 1;
        }
        CHECK.due("digests that are another", other, 0);
        return bean.getCurrentThreadAllocatedBytes() - before;
    }
}
