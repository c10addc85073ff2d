import java.lang.management.ManagementFactory;

/**
 * All calls of a run live in one room: some 600,000 objects and arrays, 7.3 million fields and elements.
 * So each call is asked of the fullest house, and what it makes must leave room for 512 such calls. A
 * field or an element takes 4 bytes mostly: what takes fewer bytes than 7.3 million of them has no more
 * of them than the room, nor more objects, unless these are all of less than 48 bytes.
 */
public final class RoomTest {
    private static final long ROOM_BYTES = 7300000 * 4;
    private static final int TIMES = 16;
    private static final String DEAR = "((((((((w+1)*2-s)*3+k)*3+t)*3+g)*3+w)&1)?30:w)";
    private static final Check CHECK = new Check("RoomTest");
    private static final com.sun.management.ThreadMXBean ROOM =
            (com.sun.management.ThreadMXBean) ManagementFactory.getThreadMXBean();

    private interface Asked {
        long of(TinHouse x);
    }

    public static void main(String[] args) {
        long before = ROOM.getCurrentThreadAllocatedBytes();
        fullest(new TinHouse());
        long made = ROOM.getCurrentThreadAllocatedBytes() - before;
        CHECK.due("the fullest house took " + made + " bytes", made <= ROOM_BYTES ? 1 : 0, 1);
        texts();
        trade();
        people();
        images();
        CHECK.end();
    }

    /** A call again and again: it may take its part of the room, as one of 512. */
    private static void fits(String call, Asked asked) {
        TinHouse x = new TinHouse();
        fullest(x);
        asked.of(x);
        long before = ROOM.getCurrentThreadAllocatedBytes();
        for (int i = 0; i < TIMES; i++) {
            asked.of(x);
        }
        long made = (ROOM.getCurrentThreadAllocatedBytes() - before) / TIMES;
        CHECK.due(call + " took " + made + " bytes", made <= ROOM_BYTES / Case.CALLS ? 1 : 0, 1);
    }

    private static void texts() {
        fits("merchant", x -> x.merchant(0, 0));
        fits("write", x -> x.write(0, '7'));
        fits("erase", x -> x.erase(2));
        fits("fault", x -> x.fault(3));
        fits("tells", x -> x.tells(3, 1, 1, 1, 1, 1));
        fits("act", x -> x.act(3, 0, 0));
        fits("force", x -> x.force(0, 99));
    }

    private static void trade() {
        fits("debt", x -> x.debt(0, 1, 5, 0, 0));
        fits("pay", x -> x.pay(0, 5, 1));
        fits("owed", x -> x.owed(0, 99));
        fits("share and leave", x -> x.share(0, 1, 5) + x.leave(0, 1, 0));
        fits("parted", x -> x.parted(0, 100000000, 0));
        fits("wide", x -> x.wide(1, 1000000, 99));
        fits("mean", x -> x.mean(999999));
        fits("better", x -> x.better(1, 1000000, 99));
        fits("span", x -> x.span(999999, 1));
        fits("balance", x -> x.balance(0, 99));
        fits("fewest", x -> x.fewest(99));
        fits("ring", x -> x.ring(99, TinHouse.NONE));
        fits("unload and load", x -> x.unload() + x.load(0, 5, 5));
        fits("price", x -> x.price(0, 5));
        fits("plan", x -> x.plan(99, TinHouse.NONE));
        fits("a load's way", x -> x.plan(99, 0));
    }

    private static void people() {
        fits("names and ahead", x -> x.names(9) + x.ahead(1, 2, 3));
        fits("orders", x -> x.orders(99));
        fits("place", x -> x.place(1, 99, 1));
        fits("order", x -> x.order(99, 8));
        fits("letter", x -> x.letter(0, 1, 5, 5, 5));
        fits("knows", x -> x.knows(1, 1, 9999));
        fits("carries", x -> x.carries(29));
        fits("mention", x -> x.mention(0, 0, 0));
        fits("men", x -> x.men(TinHouse.NONE));
        fits("a man", x -> x.men(9));
    }

    private static void images() {
        fits("image", x -> x.image(0));
        fits("from", x -> x.image(1) + x.from(1));
        fits("count", x -> x.count(3));
        fits("digest", TinHouse::digest);
    }

    /** As full as a house can be by what 512 calls leave over. */
    private static void fullest(TinHouse x) {
        for (int i = 0; i < 10; i++) {
            x.merchant(i % 5, i % 2);
        }
        Check.put(x, 3, DEAR);
        for (int i = 0; i < 16; i++) {
            CHECK.due("act", x.act(3, i % 3, i % 3), i);
        }
        for (int i = 0; i < 20; i++) {
            x.debt(i % 10, (i * 3 + 1 + i % 10) % 10, 1 + i * i, 0, 0);
            x.debt(i % 10, (i + 5) % 10, 1 + i * i, 0, 0);
        }
        for (int i = 0; i < 60; i++) {
            x.pay(i % 40, i, 1);
        }
        for (int i = 0; i < 30; i++) {
            x.letter(i % 10, (i + 1) % 10, 7, 7, i % 8);
        }
        for (int i = 0; i < 12; i++) {
            x.mention(TinHouse.NONE, i % 10, 0);
            x.gate(i % 2);
            x.load(i % 10, 1000000, i);
            x.stone(i + 1, i + 1, i);
            x.purse(i % 10, 99, 10000);
        }
        x.share(0, 0, 25);
        for (int i = 0; i < 40; i++) {
            x.ahead(i % 8, i % 8 + 1, 0);
        }
    }
}
