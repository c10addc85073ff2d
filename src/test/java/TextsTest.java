/** Promises 1 to 8: a new object, merchants, texts, acts. */
public final class TextsTest {
    private static final int MAX = Integer.MAX_VALUE;
    private static final int MIN = Integer.MIN_VALUE;
    private static final long BAD_TOLD = -2000000000000000000L;
    private static final long NO_TOLD = -3000000000000000000L;
    private static final Check CHECK = new Check("TextsTest");

    public static void main(String[] args) {
        newObject();
        merchants();
        writing();
        faults();
        deepFaults();
        telling();
        tellingRefused();
        readAnew();
        acts();
        longActs();
        force();
        CHECK.end();
    }

    private static void newObject() {
        TinHouse x = new TinHouse();
        for (int what = 0; what <= 10; what++) {
            CHECK.due("new count " + what, x.count(what), 0);
        }
        CHECK.due("new part(0)", x.part(0), 0);
        CHECK.due("new part(1)", x.part(1), 1);
        CHECK.due("new narrow", x.narrow(50), 10);
        CHECK.due("new orders", x.orders(0), 362880);
        CHECK.due("new price", x.price(2, 7), 0);
        CHECK.due("new from 0", x.from(0), TinHouse.NO);
        CHECK.due("new from 1", x.from(1), TinHouse.NO);
        CHECK.due("new text", x.erase(3), 0);
        CHECK.due("new force", x.force(2, 99), TinHouse.NONE);
        CHECK.due("new men", x.men(-1), 0);
        CHECK.due("new plan", x.plan(0, -1), 0);
        CHECK.due("new fewest", x.fewest(99), 0);
        CHECK.due("new ring", x.ring(99, -1), 0);
        CHECK.due("new span", x.span(1, 0), 0);
    }

    private static void merchants() {
        TinHouse x = new TinHouse();
        CHECK.due("house below", x.merchant(-1, 0), TinHouse.BAD);
        CHECK.due("house above", x.merchant(5, 0), TinHouse.BAD);
        CHECK.due("town below", x.merchant(0, -1), TinHouse.BAD);
        CHECK.due("town above", x.merchant(0, 2), TinHouse.BAD);
        CHECK.due("far numbers", x.merchant(MAX, MIN), TinHouse.BAD);
        for (int i = 0; i < 10; i++) {
            CHECK.due("merchant " + i, x.merchant(4 - i % 5, i % 2), i);
        }
        CHECK.due("the 11th", x.merchant(4, 1), TinHouse.FULL);
        CHECK.due("BAD ahead of FULL", x.merchant(5, 1), TinHouse.BAD);
        CHECK.due("count", x.count(0), 10);
    }

    private static void writing() {
        TinHouse x = new TinHouse();
        CHECK.due("text below", x.write(-1, 40), TinHouse.BAD);
        CHECK.due("text above", x.write(4, 40), TinHouse.BAD);
        CHECK.due("character below", x.write(0, -1), TinHouse.BAD);
        CHECK.due("character above", x.write(0, 128), TinHouse.BAD);
        for (int i = 1; i <= 50; i++) {
            CHECK.due("write " + i, x.write(3, i % 2 == 0 ? 0 : 127), i);
        }
        CHECK.due("the 51st", x.write(3, 40), TinHouse.FULL);
        CHECK.due("BAD ahead of FULL", x.write(3, 128), TinHouse.BAD);
        CHECK.due("another text", x.write(2, 40), 1);
        CHECK.due("erase below", x.erase(-1), TinHouse.BAD);
        CHECK.due("erase above", x.erase(4), TinHouse.BAD);
        CHECK.due("erase 3", x.erase(3), 50);
        CHECK.due("erase 3 again", x.erase(3), 0);
        CHECK.due("write after erase", x.write(3, 49), 1);
        CHECK.due("told anew", x.tells(3, 0, 0, 0, 0, 0), 1);
        CHECK.due("erase 2", x.erase(2), 1);
    }

    private static void fault(String text, int want) {
        TinHouse x = new TinHouse();
        Check.put(x, 0, text);
        CHECK.due("fault of '" + text + "'", x.fault(0), want);
        CHECK.due("act of '" + text + "'", x.act(0, 0, 0), want == -1 ? 0 : TinHouse.NO);
        boolean told = x.tells(0, 0, 0, 0, 0, 0) != NO_TOLD;
        CHECK.due("tells of '" + text + "'", told ? 1 : 0, want == -1 ? 1 : 0);
    }

    private static void faults() {
        fault("", 1);
        fault("   ", 31);
        fault("7", -1);
        fault(" 7 ", -1);
        fault("123456", -1);
        fault("1234567", 2);
        fault("1+1234567", 22);
        fault("1+12345678+", 22);
        fault("000000", -1);
        fault("0000000", 2);
        fault("1 2", 21);
        fault("1g", 11);
        fault("gk", 11);
        fault("g k", 21);
        fault("g1", 11);
        fault("x", 1);
        fault("G", 1);
        fault("1\t", 11);
        fault("1+", 21);
        fault("1+ ", 31);
        fault("+1", 1);
        fault("1++1", 21);
        fault("1--1", -1);
        fault("1*-!-2", -1);
        fault("1!", 11);
        fault("!", 11);
        fault("1~2", 11);
        fault("~1", 1);
        fault("1!2", 11);
        fault("1(2", 11);
        fault("1!=2", 11);
        fault("1<2<3", 31);
        fault("1=2>3", 31);
        fault("1<2+3<4", 51);
        fault("(1<2)<3", -1);
        fault("1<2&3<4", -1);
        fault("1<2?3<4:5<6", -1);
        fault("1<2?3<4:5<6<7", 111);
        fault("1&&2", 21);
        fault("1<=2", 21);
        fault("%", 1);
        fault("g+k*t-s/w|g&k<t", -1);
    }

    private static void deepFaults() {
        fault("()", 11);
        fault("(1", 21);
        fault("(1))", 31);
        fault(")", 1);
        fault("1)", 11);
        fault("(1)(2)", 31);
        fault("(1)2", 31);
        fault("2(1)", 11);
        fault("((((((((1))))))))", -1);
        fault("(((((((((1)))))))))", 83);
        fault("((((((((1(", 91);
        fault("(((((((1)+((1", 131);
        fault("(((((((1)+(((1", 123);
        fault("(1)+(1)+(1)+(1)+(1)+(1)+(1)+(1)+(1)+(1)", -1);
        fault("1?2:3", -1);
        fault("1?2", 31);
        fault("1?2:", 41);
        fault("1?:3", 21);
        fault("?1:2", 1);
        fault("1:2", 11);
        fault("1?2:3:4", 51);
        fault("1?2?3:4:5", -1);
        fault("1?2?3:4", 71);
        fault("1?2:3?4:5", -1);
        fault("1?(2:3)", 41);
        fault("(1?2):3", 41);
        fault("(1?2:3)?4:5", -1);
        fault("1?2:3?4", 71);
        fault("1|2?3|4:5|6", -1);
        fault("1?1?1?1?1?1?1?1?1?1?1?1?1:1:1:1:1:1:1:1:1:1:1:1:1", -1);
        fault("1?1?1?1?1?1?1?1?1?1?1?1?1:1:1:1:1:1:1:1:1:1:1:1:11", -1);
        fault("1?1?1?1?1?1?1?1?1?1?1?1?1:1:1:1:1:1:1:1:1:1:1:1:1:", 491);
        fault("1?1?1?1?1?1?1?1?1?1?1?1?1?1?1?1?1?1?1?1?1?1?1?1?1?", 501);
        fault("-------------------------------------------------1", -1);
        fault("--------------------------------------------------", 501);
        TinHouse x = new TinHouse();
        CHECK.due("fault below", x.fault(-1), TinHouse.BAD);
        CHECK.due("fault above", x.fault(4), TinHouse.BAD);
        CHECK.due("fault far", x.fault(MIN), TinHouse.BAD);
    }

    private static void told(String text, long want) {
        TinHouse x = new TinHouse();
        Check.put(x, 1, text);
        CHECK.due("tells '" + text + "'", x.tells(1, 5, 1, 0, 42, -1000), want);
    }

    private static void telling() {
        told("12", 12);
        told("000012", 12);
        told("999999*999999", 999998000001L);
        told("g", 5);
        told("k", 1);
        told("t", 0);
        told("s", 42);
        told("w", -1000);
        told("1+2*3", 7);
        told("(1+2)*3", 9);
        told("10-2-3", 5);
        told("100/7/2", 7);
        told("100/7*2", 28);
        told("w/7", -142);
        told("7/0", 0);
        told("7/(1-1)+3", 3);
        told("-2*3", -6);
        told("2--3", 5);
        told("!7", 0);
        told("!0", 1);
        told("!!7", 1);
        told("-!0", -1);
        told("!-3+1", 1);
        told("6&3", 1);
        told("6&0", 0);
        told("6|0", 1);
        told("0|0", 0);
        told("4|0&0", 1);
        told("(4|0)&0", 0);
        told("1<2", 1);
        told("2<1", 0);
        told("2<2", 0);
        told("3>2", 1);
        told("2>2", 0);
        told("2=2", 1);
        told("2=1", 0);
        told("1+1=2&3", 1);
        told("0=1|5", 1);
        told("7?8:9", 8);
        told("0?8:9", 9);
        told("w?8:9", 8);
        told("1?0?3:4:5", 4);
        told("0?1:0?2:3", 3);
        told("0?1:4?2:3", 2);
        told("1?2:3+4", 2);
        told("0|1?2:3", 2);
        told("(0?2:3)+4", 7);
        told("0?1/0:2/0", 0);
        told(" ( 1 + 2 ) * - 3 ", -9);
        told("g*100+k*10+t", 510);
        told("999999*999999*999999*999999*999999*999999", -7485592696623439231L);
        TinHouse x = new TinHouse();
        Check.put(x, 0, "w+1");
        CHECK.due("sum wraps", x.tells(0, 0, 0, 0, 0, Long.MAX_VALUE), Long.MIN_VALUE);
        Check.put(x, 0, "w/-1");
        CHECK.due("quotient wraps", x.tells(0, 0, 0, 0, 0, Long.MIN_VALUE), Long.MIN_VALUE);
        Check.put(x, 0, "-w");
        CHECK.due("minus wraps", x.tells(0, 0, 0, 0, 0, Long.MIN_VALUE), Long.MIN_VALUE);
        CHECK.due("another text", x.tells(1, 0, 0, 0, 0, 0), NO_TOLD);
    }

    private static void tellingRefused() {
        TinHouse x = new TinHouse();
        Check.put(x, 0, "g*1000+k*100+t*10+s");
        CHECK.due("all at most", x.tells(0, 5, 1, 1, 99, 0), 5209);
        CHECK.due("all at least", x.tells(0, 0, 0, 0, 0, 0), 0);
        CHECK.due("text", x.tells(4, 0, 0, 0, 0, 0), BAD_TOLD);
        CHECK.due("text below", x.tells(-1, 0, 0, 0, 0, 0), BAD_TOLD);
        CHECK.due("g", x.tells(0, 6, 0, 0, 0, 0), BAD_TOLD);
        CHECK.due("g below", x.tells(0, -1, 0, 0, 0, 0), BAD_TOLD);
        CHECK.due("k", x.tells(0, 0, 2, 0, 0, 0), BAD_TOLD);
        CHECK.due("k below", x.tells(0, 0, -1, 0, 0, 0), BAD_TOLD);
        CHECK.due("t", x.tells(0, 0, 0, 2, 0, 0), BAD_TOLD);
        CHECK.due("t below", x.tells(0, 0, 0, -1, 0, 0), BAD_TOLD);
        CHECK.due("s", x.tells(0, 0, 0, 0, 100, 0), BAD_TOLD);
        CHECK.due("s below", x.tells(0, 0, 0, 0, -1, 0), BAD_TOLD);
        CHECK.due("BAD ahead of NO", x.tells(1, 0, 0, 0, 100, 0), BAD_TOLD);
        CHECK.due("NO", x.tells(1, 0, 0, 0, 99, 0), NO_TOLD);
    }

    /** What one reading left behind does not touch the next one. */
    private static void readAnew() {
        TinHouse x = new TinHouse();
        String[] faulty = {"((((((((1", "1234567", "1+2*", "1?2", "((((((((((", "1?2:3+", "12 12", "-", "k|"};
        for (String text : faulty) {
            Check.put(x, 0, text);
            Check.put(x, 3, "((((((((w))))))))+12");
            CHECK.due("faulty '" + text + "'", x.fault(0) == TinHouse.NONE ? 1 : 0, 0);
            CHECK.due("then sound", x.fault(3), TinHouse.NONE);
            x.fault(0);
            CHECK.due("then told", x.tells(3, 0, 0, 0, 0, 30), 42);
            x.fault(0);
            Check.put(x, 3, ")");
            CHECK.due("then faulty", x.fault(3), 1);
            x.fault(0);
            Check.put(x, 3, "123456-w");
            CHECK.due("then six digits", x.fault(3), TinHouse.NONE);
            x.fault(0);
            CHECK.due("then their number", x.tells(3, 0, 0, 0, 0, 6), 123450);
        }
    }

    /** Every sign of a text that is as long as can be may be a code of its own. */
    private static void longActs() {
        TinHouse x = Check.withMerchants(1);
        x.gate(0);
        String text = "-------------------------------------------------7";
        Check.put(x, 0, text);
        Check.put(x, 1, text.substring(1) + "0");
        for (int i = 0; i < 16; i++) {
            CHECK.due("long act", x.act(i % 2, 0, i), i);
        }
        for (int i = 0; i < 16; i++) {
            CHECK.due("long act " + i, x.wide(0, 1000, i), i % 2 == 0 ? 1000 : 300);
        }
        CHECK.due("long text", x.tells(0, 0, 0, 0, 0, 0), -7);
    }

    private static void acts() {
        TinHouse x = Check.withMerchants(2);
        Check.put(x, 0, "7");
        CHECK.due("text", x.act(4, 0, 0), TinHouse.BAD);
        CHECK.due("text below", x.act(-1, 0, 0), TinHouse.BAD);
        CHECK.due("sort", x.act(0, 3, 0), TinHouse.BAD);
        CHECK.due("sort below", x.act(0, -1, 0), TinHouse.BAD);
        CHECK.due("from", x.act(0, 0, 100), TinHouse.BAD);
        CHECK.due("from below", x.act(0, 0, -1), TinHouse.BAD);
        CHECK.due("faulty", x.act(1, 0, 0), TinHouse.NO);
        CHECK.due("BAD ahead of NO", x.act(1, 3, 0), TinHouse.BAD);
        CHECK.due("nothing changed", x.count(1), 0);
        x.gate(0);
        CHECK.due("act", x.act(0, 0, 5), 0);
        Check.put(x, 0, "50");
        CHECK.due("the text as it was then", x.wide(0, 100, 5), 93);
        for (int i = 1; i < 16; i++) {
            CHECK.due("act " + i, x.act(0, i % 3, 99), i);
        }
        CHECK.due("the 17th", x.act(0, 0, 0), TinHouse.FULL);
        CHECK.due("NO ahead of FULL", x.act(1, 0, 0), TinHouse.NO);
        CHECK.due("BAD ahead of all", x.act(1, 0, 100), TinHouse.BAD);
        CHECK.due("count", x.count(1), 16);
    }

    private static void force() {
        TinHouse x = new TinHouse();
        CHECK.due("none", x.force(0, 99), TinHouse.NONE);
        CHECK.due("act 0", Check.enact(x, "1", 0, 10), 0);
        CHECK.due("act 1", Check.enact(x, "2", 1, 0), 1);
        CHECK.due("act 2", Check.enact(x, "3", 0, 20), 2);
        CHECK.due("act 3", Check.enact(x, "4", 0, 10), 3);
        CHECK.due("act 4", Check.enact(x, "5", 0, 15), 4);
        CHECK.due("ahead of all", x.force(0, 9), TinHouse.NONE);
        CHECK.due("of like ones the greatest number", x.force(0, 10), 3);
        CHECK.due("still", x.force(0, 14), 3);
        CHECK.due("the latest season", x.force(0, 15), 4);
        CHECK.due("not the latest told", x.force(0, 99), 2);
        CHECK.due("another sort", x.force(1, 0), 1);
        CHECK.due("no such sort told", x.force(2, 99), TinHouse.NONE);
        CHECK.due("sort", x.force(3, 0), TinHouse.BAD);
        CHECK.due("sort below", x.force(-1, 0), TinHouse.BAD);
        CHECK.due("season", x.force(0, 100), TinHouse.BAD);
        CHECK.due("season below", x.force(0, -1), TinHouse.BAD);
    }
}
