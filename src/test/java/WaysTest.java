/** Promises 18 to 24: gates, the narrow way, stones. */
public final class WaysTest {
    private static final Check CHECK = new Check("WaysTest");

    public static void main(String[] args) {
        gates();
        wide();
        narrow();
        mean();
        better();
        stones();
        span();
        CHECK.end();
    }

    private static void gates() {
        TinHouse x = new TinHouse();
        CHECK.due("land below", x.gate(-1), TinHouse.BAD);
        CHECK.due("land above", x.gate(2), TinHouse.BAD);
        for (int i = 1; i <= 6; i++) {
            CHECK.due("gate " + i, x.gate(i % 2), i);
        }
        CHECK.due("the 7th", x.gate(0), TinHouse.FULL);
        CHECK.due("BAD ahead of FULL", x.gate(2), TinHouse.BAD);
        CHECK.due("count", x.count(5), 6);
    }

    private static void wide() {
        TinHouse x = Check.withMerchants(2);
        CHECK.due("no gates", x.wide(0, 1000000, 0), 1000000);
        x.gate(0);
        x.gate(1);
        CHECK.due("5 of 100 at each", x.wide(0, 1000, 0), 903);
        CHECK.due("cut to nothing", x.wide(0, 19, 0), 19);
        Check.enact(x, "g*10+k*20+t*3+s", 0, 2);
        CHECK.due("ahead of the act", x.wide(0, 1000, 1), 903);
        CHECK.due("by gate, kin, land, season", x.wide(0, 1000, 2), 780 - 117);
        CHECK.due("of the other town", x.wide(1, 1000, 2), 980 - 343);
        Check.enact(x, "w>99?10:50", 0, 3);
        CHECK.due("by what is left", x.wide(0, 100, 3), 45);
        Check.enact(x, "101", 0, 4);
        CHECK.due("100 at most", x.wide(0, 1000, 4), 0);
        Check.enact(x, "-1", 0, 5);
        CHECK.due("0 at least", x.wide(0, 1000, 5), 1000);
        CHECK.due("merchant", x.wide(2, 1000, 0), TinHouse.BAD);
        CHECK.due("merchant below", x.wide(-1, 1000, 0), TinHouse.BAD);
        CHECK.due("weight 0", x.wide(0, 0, 0), TinHouse.BAD);
        CHECK.due("weight above", x.wide(0, 1000001, 0), TinHouse.BAD);
        CHECK.due("season", x.wide(0, 1000, 100), TinHouse.BAD);
        CHECK.due("season below", x.wide(0, 1000, -1), TinHouse.BAD);
    }

    private static void narrow() {
        TinHouse x = new TinHouse();
        CHECK.due("below", x.narrow(1), TinHouse.BAD);
        CHECK.due("above", x.narrow(101), TinHouse.BAD);
        CHECK.due("at first", x.narrow(100), 10);
        CHECK.due("what it was", x.narrow(2), 100);
        CHECK.due("what it was then", x.narrow(2), 2);
    }

    private static void fraction(TinHouse x, String call, long above, long below) {
        CHECK.due(call + " above", x.part(0), above);
        CHECK.due(call + " below", x.part(1), below);
    }

    private static void mean() {
        TinHouse x = new TinHouse();
        CHECK.due("mean(1000)", x.mean(1000), 1);
        fraction(x, "mean(1000)", 900, 1);
        CHECK.due("mean(1)", x.mean(1), 1);
        fraction(x, "mean(1)", 9, 10);
        CHECK.due("mean(0)", x.mean(0), TinHouse.BAD);
        CHECK.due("mean above", x.mean(1000001), TinHouse.BAD);
        fraction(x, "refused", 9, 10);
        x.narrow(100);
        CHECK.due("mean(1000000)", x.mean(1000000), 1);
        fraction(x, "mean(1000000)", 990000, 1);
        CHECK.due("mean(999999)", x.mean(999999), 1);
        fraction(x, "mean(999999)", 98999901, 100);
        x.mean(15);
        fraction(x, "mean(15)", 297, 20);
    }

    private static void better() {
        TinHouse x = Check.withMerchants(2);
        CHECK.due("no gates", x.better(0, 1000, 0), 0);
        x.gate(0);
        x.gate(1);
        CHECK.due("903 against 900", x.better(0, 1000, 0), 0);
        x.narrow(11);
        CHECK.due("903 against 909", x.better(0, 1000, 0), 1);
        CHECK.due("no fraction of it", x.part(0), 0);
        x.narrow(10);
        Check.enact(x, "g=0?10:0", 0, 0);
        CHECK.due("alike", x.better(0, 1000, 0), 0);
        CHECK.due("less than one above", x.better(0, 1001, 0), 0);
        CHECK.due("less than one below", x.better(0, 1011, 0), 0);
        Check.enact(x, "g=0?11:0", 0, 1);
        CHECK.due("by a fraction", x.better(0, 101, 1), 1);
        CHECK.due("by a fraction above", x.better(0, 108, 1), 1);
        CHECK.due("merchant", x.better(2, 1000, 0), TinHouse.BAD);
        CHECK.due("weight 0", x.better(0, 0, 0), TinHouse.BAD);
        CHECK.due("weight above", x.better(0, 1000001, 0), TinHouse.BAD);
        CHECK.due("season", x.better(0, 1000, 100), TinHouse.BAD);
    }

    private static void stones() {
        TinHouse x = new TinHouse();
        CHECK.due("a 0", x.stone(0, 1, 0), TinHouse.BAD);
        CHECK.due("a above", x.stone(10001, 1, 0), TinHouse.BAD);
        CHECK.due("b 0", x.stone(1, 0, 0), TinHouse.BAD);
        CHECK.due("b above", x.stone(1, 10001, 0), TinHouse.BAD);
        CHECK.due("e below", x.stone(1, 1, -1), TinHouse.BAD);
        CHECK.due("e above", x.stone(1, 5, 5), TinHouse.BAD);
        for (int i = 1; i <= 12; i++) {
            CHECK.due("stone " + i, x.stone(10000, 10000, i == 1 ? 0 : 9999), i);
        }
        CHECK.due("the 13th", x.stone(1, 1, 0), TinHouse.FULL);
        CHECK.due("BAD ahead of FULL", x.stone(0, 1, 0), TinHouse.BAD);
        CHECK.due("count", x.count(6), 12);
    }

    private static void span() {
        TinHouse x = new TinHouse();
        CHECK.due("none told", x.span(5, 0), 0);
        x.stone(10, 12, 3);
        CHECK.due("lower", x.span(25, 0), 1);
        fraction(x, "lower", 45, 2);
        CHECK.due("upper", x.span(25, 1), 1);
        fraction(x, "upper", 75, 2);
        x.stone(7, 9, 2);
        CHECK.due("a narrower lower", x.span(25, 0), 1);
        fraction(x, "a narrower lower", 25, 1);
        CHECK.due("the upper stays", x.span(25, 1), 1);
        fraction(x, "the upper stays", 75, 2);
        x.stone(2, 4, 2);
        CHECK.due("the first like one", x.span(3, 0), 1);
        fraction(x, "the first like one", 3, 1);
        x.stone(4, 5, 1);
        x.stone(10, 11, 4);
        x.stone(10000, 9999, 1);
        CHECK.due("one point", x.span(7, 1), 1);
        fraction(x, "one point", 7, 1);
        CHECK.due("one point from below", x.span(7, 0), 1);
        fraction(x, "one point from below", 7, 1);
        CHECK.due("at most", x.span(1000000, 1), 1);
        fraction(x, "at most", 1000000, 1);
        x.stone(10000, 9998, 1);
        CHECK.due("they do not meet", x.span(7, 1), 0);
        fraction(x, "nothing changed", 1000000, 1);
        TinHouse y = new TinHouse();
        y.stone(5, 6, 2);
        y.stone(5, 6, 1);
        y.span(10, 0);
        fraction(y, "the second's lower", 10, 1);
        y.span(10, 1);
        fraction(y, "the second's upper", 14, 1);
        CHECK.due("x 0", x.span(0, 1), TinHouse.BAD);
        CHECK.due("x above", x.span(1000001, 1), TinHouse.BAD);
        CHECK.due("which", x.span(7, 2), TinHouse.BAD);
        CHECK.due("which below", x.span(7, -1), TinHouse.BAD);
    }
}
