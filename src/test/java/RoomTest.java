import com.sun.management.ThreadMXBean;
import java.lang.management.ManagementFactory;

/** The room that objects and calls take: calls make nothing new. */
public final class RoomTest {
    private static final ThreadMXBean THREADS = (ThreadMXBean) ManagementFactory.getThreadMXBean();

    public static void main(String[] args) {
        dearCalls(fullBook());
        OffsetBook book = fullBook();
        long before = THREADS.getCurrentThreadAllocatedBytes();
        dearCalls(book);
        long calls = THREADS.getCurrentThreadAllocatedBytes() - before;
        Check.holds("bytes that calls make: " + calls, calls < 4000);
        before = THREADS.getCurrentThreadAllocatedBytes();
        OffsetBook fresh = new OffsetBook();
        long made = THREADS.getCurrentThreadAllocatedBytes() - before;
        Check.holds("bytes of a new object: " + made + " " + fresh.count(0), made < 40000);
        Check.finish("RoomTest");
    }

    private static OffsetBook fullBook() {
        OffsetBook book = new OffsetBook();
        StringBuilder text = new StringBuilder();
        for (int n = 0; n < 120; n++) {
            String one = "" + (char) ('a' + n % 26);
            String other = "" + (char) ('a' + (n * 7 + n / 26 + 1) % 13) + (n % 3 == 0 ? "x" : "");
            text.append(one).append("=").append(one.equals(other) ? "5" : other + "+" + n % 2);
            if (n % 12 == 11) {
                Check.tell(book, text.toString());
                text.setLength(0);
            } else {
                text.append(";");
            }
        }
        Check.due("full", book.count(1), 120);
        return book;
    }

    private static void dearCalls(OffsetBook book) {
        for (int n = 0; n < 25; n++) {
            book.feed(0x613d6221, n, n, n, n);
            book.tell();
            book.feed(0x613d6200, n, n, n, n);
            book.end(3);
            book.test();
            book.retract(n);
            book.restore(n - 1);
            book.statement(n, 4);
            book.count(9);
            book.chain(n, 1, 0);
            book.cut(n * 3, -1);
            book.blame(0);
            book.mean(n);
            book.image(n & 1);
            book.back(n & 1);
            book.undo();
        }
    }
}
