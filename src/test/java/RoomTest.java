import com.sun.management.ThreadMXBean;
import java.lang.management.ManagementFactory;

/** What a run of 512 calls makes stays small: rows are made once and used again. */
public final class RoomTest {
    private static final Check CHECK = new Check();
    private static final long BYTES_MOST = 1_000_000;

    public static void main(String[] args) {
        ThreadMXBean threads = (ThreadMXBean) ManagementFactory.getThreadMXBean();
        dearestRun();
        long before = threads.getCurrentThreadAllocatedBytes();
        dearestRun();
        long made = threads.getCurrentThreadAllocatedBytes() - before;
        System.out.println("a run of dear calls made " + made + " bytes");
        CHECK.is("too much is made", made > BYTES_MOST ? 1 : 0, 0);
        CHECK.end("RoomTest");
    }

    /** Full pages, a full memory, all redirects, and calls that ask for everything again and again. */
    private static void dearestRun() {
        LinkAuditor x = new LinkAuditor();
        int calls = 0;
        for (char page = 'A'; page < 'L'; page++) {
            Check.type(x, "=abcdefgh;{A};" + "[L#abcdefgg],".repeat(10) + "[K#x-9],[L]");
            x.load(page - 'A');
            calls += 22;
        }
        Check.type(x, "K#x-9>L#y");
        x.redirect();
        Check.type(x, "L>K#x-9");
        x.redirect();
        calls += 5;
        while (calls < 512) {
            x.mendAll();
            x.count(5);
            x.reach(0, 0);
            x.repair(0, 0, 0);
            x.redirection(0, 4);
            x.memory(0, 3);
            x.remove(5);
            x.undo();
            x.undo();
            calls += 9;
        }
    }
}
