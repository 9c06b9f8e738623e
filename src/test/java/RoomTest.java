import java.lang.management.ManagementFactory;

/** The dearest calls, again and again, must make next to nothing: all of a run lives in one room. */
public final class RoomTest {
    private static final com.sun.management.ThreadMXBean THREADS =
            (com.sun.management.ThreadMXBean) ManagementFactory.getThreadMXBean();
    private static final String TEXT = "prime 97;letters 3;states 4;start 0 1;edge 0 a 1 1;edge 1 b 2 5;"
            + "edge 2 c 3 7;edge 3 a 3 2;edge 3 b 0 1;end 3 9;end 1 4;";

    private static long sum;

    private static long bytes() {
        return THREADS.getThreadAllocatedBytes(Thread.currentThread().getId());
    }

    private static void everyCall(WeightedWords x, int round) {
        for (int i = 0; i < TEXT.length(); i++) {
            sum += x.feed(TEXT.charAt(i));
        }
        sum += x.text() + x.fault() + x.shelf(round % 3, 2, 8);
        for (int i = 0; i < 8; i++) {
            sum += x.letter(i % 3) + x.learn() + x.ask(100 + i) + x.lay(round % 3, i, i % 3) + x.kind(0, i);
            sum += x.share(2, 6) + x.mean(1, 6) + x.counter() + x.rule(8) + x.rule(9) + x.space(0, i % 3);
            sum += x.part(i, 0) + x.cell(i, 0) + x.keep(i % 2) + x.basis(i) + x.value(2) + x.prefix(i);
            sum += x.differ(0) + x.turn() + x.close() + x.back(0) + x.shrink() + x.draw(i, 4) + x.take(0, 2, 0);
        }
    }

    public static void main(String[] args) {
        everyCall(new WeightedWords(), 0);
        long before = bytes();
        WeightedWords x = new WeightedWords();
        long made = bytes();
        for (int round = 0; round < 20; round++) {
            everyCall(x, round);
        }
        long used = bytes();
        System.out.println("an object: " + (made - before) + " bytes; twenty rounds of all calls: "
                + (used - made) + " bytes (" + sum + ")");
        if (made - before > 40_000 || used - made > 40_000) {
            System.out.println("that is too much");
            System.exit(1);
        }
    }
}
