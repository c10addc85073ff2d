import java.lang.management.ManagementFactory;

/**
 * What a run makes is counted: an object and its images are small, and no other call makes anything.
 * The dearest calls are asked on the fullest house, so this also shows that they end soon.
 */
public final class RoomTest {
    private static final String DEAR = "((((((((w+1)*2-s)*3+k)*3+t)*3+g)*3+w)&1)?30:w)";
    private static final Check CHECK = new Check("RoomTest");
    private static final com.sun.management.ThreadMXBean ROOM =
            (com.sun.management.ThreadMXBean) ManagementFactory.getThreadMXBean();

    public static void main(String[] args) {
        ask(fullest());
        long before = ROOM.getCurrentThreadAllocatedBytes();
        TinHouse x = new TinHouse();
        atMost("an object", before, 64 * 1024);
        x = fullest();
        before = ROOM.getCurrentThreadAllocatedBytes();
        for (int i = 0; i < 12; i++) {
            ask(x);
        }
        atMost("calls that ask", before, 4 * 1024);
        before = ROOM.getCurrentThreadAllocatedBytes();
        for (int i = 0; i < 512; i++) {
            x.image(i % 2);
            x.from(i % 2);
        }
        atMost("images", before, 64 * 1024);
        before = ROOM.getCurrentThreadAllocatedBytes();
        for (int i = 0; i < 512; i++) {
            Check.put(x, 1, "(1+2)*3");
            x.fault(1);
            x.unload();
            x.load(1, 2, 3);
            x.names(9);
            x.ahead(1, 2, 3);
        }
        atMost("calls that tell", before, 4 * 1024);
        CHECK.end();
    }

    private static void atMost(String what, long before, long most) {
        long made = ROOM.getCurrentThreadAllocatedBytes() - before;
        CHECK.due(what + " took " + made + " bytes", made <= most ? 1 : 0, 1);
    }

    private static TinHouse fullest() {
        TinHouse x = Check.withMerchants(10);
        for (int i = 0; i < 16; i++) {
            CHECK.due("act", Check.enact(x, DEAR, i % 3, i % 3), i);
        }
        for (int i = 0; i < 40; i++) {
            x.debt(i % 10, (i * 3 + 1 + i % 10) % 10, 1 + i * i, 0, 0);
            x.debt(i % 10, (i + 5) % 10, 1 + i * i, 0, 0);
        }
        for (int i = 0; i < 60; i++) {
            x.pay(i % 40, i, 1);
        }
        for (int i = 0; i < 30; i++) {
            x.letter(i % 10, (i + 1) % 10, 7, 7, i % 8);
            x.mention(-1, i, 0);
            x.gate(i % 2);
            x.load(i % 10, 1000000, i);
        }
        return x;
    }

    private static long ask(TinHouse x) {
        long all = x.digest() + x.fewest(99) + x.ring(99, -1) + x.balance(0, 99) + x.owed(0, 99);
        all += x.orders(99) + x.place(1, 99, 1) + x.order(99, 0);
        all += x.knows(1, 1, 9999) + x.carries(0) + x.men(-1) + x.plan(99, -1);
        return all + x.tells(3, 1, 1, 1, 1, 1) + x.wide(1, 1000000, 99) + x.span(1, 0) + x.mean(7);
    }
}
