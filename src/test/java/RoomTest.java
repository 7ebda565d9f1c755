import java.lang.management.ManagementFactory;
import java.util.function.IntUnaryOperator;

/** All calls of a run live in one room: an object's 512 calls make little, and questions next to nothing. */
public final class RoomTest {
    private static final com.sun.management.ThreadMXBean THREADS =
        (com.sun.management.ThreadMXBean) ManagementFactory.getThreadMXBean();

    /** Far below what the room holds: some 600,000 objects, each of 16 bytes at least. */
    private static final long ROOM = 1_000_000;
    /** What the measuring itself may make, and a list that grows once. */
    private static final long NEXT_TO_NOTHING = 20_000;

    private static final int CALLS = 400;

    private RoomTest() {
    }

    public static void main(String[] args) {
        making();
        rules();
        questions();
        Due.finish();
    }

    private static long made() {
        return THREADS.getThreadAllocatedBytes(Thread.currentThread().getId());
    }

    private static void little(String what, long bytes, long bound) {
        Due.due(what + " makes " + bytes + " bytes, fewer than " + bound, bytes < bound ? 1 : 0, 1);
    }

    private static void making() {
        full();
        long before = made();
        full();
        little("an object that holds all it may", made() - before, ROOM);
    }

    /** The texts that make most before they are found faulty. */
    private static void rules() {
        String text = Bounds.clauses(6) + ";";
        HeardWords x = new HeardWords();
        long before = made();
        for (int i = 0; i < 512 / 12; i++) {
            Bounds.rule(x, 0, text);
        }
        for (int i = 0; i < 500; i++) {
            x.rule(1);
        }
        little("faulty rules", made() - before, ROOM);
    }

    /** Fourteen words, the first of no part, ten rules of six clauses or with each sort of test. */
    private static HeardWords full() {
        HeardWords x = Bounds.words(5, 14);
        for (int i = 1; i < 14; i++) {
            for (int k = 1; k <= 4 && k <= i; k++) {
                x.hold(i, i - k);
            }
        }
        for (int i = 0; i < 10; i++) {
            String text = i % 2 == 0 ? Bounds.clauses(6)
                : "out s=0&s=1&s=2&s=3;in !(h>0|k<9)&s=4;need 5 b=9;need 6 s=7;may e=2&s=8;out s=9&c=1";
            Bounds.rule(x, i / 5, text);
        }
        x.tape(0, 0, 60);
        for (int i = 0; i < 60; i++) {
            x.item(0, i, -1);
        }
        return x;
    }

    private static void questions() {
        HeardWords x = full();
        asks("meets", i -> x.meets(9, 13, i & 3, i % 3));
        asks("heard", i -> x.heard(13, i & 3, i >> 2 & 1));
        asks("why", i -> x.why(13, i & 3, i >> 2 & 1));
        asks("least", i -> x.least(13, i & 3, i >> 2 & 1, 0));
        asks("ends", i -> x.ends(13, i & 1));
        asks("cut", i -> x.cut(13, i & 3, i >> 2 & 1, i >> 3 & 1));
        asks("opened", i -> x.opened(i % 14, i & 1));
        asks("proved", i -> x.proved(i & 1));
        asks("needed", i -> x.needed(i & 1023, i & 1));
        asks("plan", i -> x.plan(31, i & 1, i % 6 - 1));
        asks("clash", i -> x.clash(13, i & 3, i >> 2 & 1));
        asks("silent", i -> x.silent(i & 3, i >> 2 & 1));
        asks("hangs", i -> x.hangs(i % 10));
        asks("most", i -> x.most());
        asks("beside", i -> x.beside(i & 3, i % 3));
        asks("way", i -> x.way(0, 0, 13, i & 3, i >> 2 & 1));
        asks("act", i -> x.act(13, i % 3, i));
        asks("trace", x::trace);
        asks("taken", i -> x.taken(13, i % 8));
        asks("count", i -> x.count(i % 5));
        asks("tape", i -> x.tape(1 + i % 5, i % 5, 60));
        asks("item", i -> x.item(1, i % 60, i));
        asks("read", i -> (int) x.read(1, i % 60));
        asks("shift", i -> x.shift(1, 0, 1, 1, 59));
    }

    private static void asks(String name, IntUnaryOperator call) {
        call.applyAsInt(0);
        long before = made();
        for (int i = 0; i < CALLS; i++) {
            call.applyAsInt(i);
        }
        little(name + " asked " + CALLS + " times", made() - before, NEXT_TO_NOTHING);
    }
}
