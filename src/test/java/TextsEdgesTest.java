import java.util.function.Consumer;

/** Promises 1 to 8, every boundary that the document names: a new object, merchants, texts, acts. */
public final class TextsEdgesTest {
    private static final int NONE = TinHouse.NONE, BAD = TinHouse.BAD, NO = TinHouse.NO, FULL = TinHouse.FULL;
    private static final long BAD_TOLD = -2000000000000000000L;
    private static final long NO_TOLD = -3000000000000000000L;
    private static final long BAD_SILVER = -9000000000000000000L;
    private static final Consumer<Case> NOTHING = c -> { };
    private static final Cases CASES = new Cases("TextsEdgesTest");

    public static void main(String[] args) {
        newObject();
        newObjectHasNoneOf();
        merchants();
        writing();
        erasing();
        tooEarly();
        canNotStand();
        heldOnce();
        eitherOr();
        digits();
        openOnes();
        blanks();
        faultOfText();
        values();
        truths();
        wraps();
        quotients();
        binds();
        tellsByNumbers();
        tellsRefused();
        acts();
        actsRefused();
        inForce();
        CASES.end();
    }

    // ---- promise 1

    private static void newObject() {
        for (int what = 0; what <= 10; what++) {
            int asked = what;
            CASES.test("new: count(" + what + ")", c -> c.gives(0, "count", asked));
        }
        CASES.test("new: THE FRACTION is 0 by 1", c -> c.gives(0, "part", 0).gives(1, "part", 1));
        CASES.test("new: n of THE NARROW WAY", c -> c.gives(10, "narrow", 11));
        CASES.test("new: nine NAMES", c -> c.gives(8, "order", 0, 8).refuses(BAD, "order", 0, 9));
        CASES.test("new: all orders", c -> c.gives(362880, "orders", 99));
        for (int world = 0; world < 3; world++) {
            int asked = world;
            CASES.test("new: price of WORLD " + world, c -> c.gives(0, "price", asked, 1));
        }
        for (int text = 0; text < 4; text++) {
            int asked = text;
            CASES.test("new: TEXT " + text + " is empty", c -> c.gives(1, "fault", asked).gives(0, "erase", asked));
        }
        CASES.test("new: digest", c -> {
            long h = 379;
            for (int v : new int[] {0, 0, 0, 0, 0, 0, 0, 0, 0, 0, 0, 10, 9, 0, 0, 0, 0, 0, 0, 0, 0, 1}) {
                h = 31 * h + v;
            }
            c.gives(h, "digest");
        });
        CASES.test("the 512th call still holds", c -> {
            c.text(0, "w+1");
            for (int i = 5; i < Case.CALLS; i++) {
                c.gives(i + 1, "tells", 0, 0, 0, 0, 0, i);
            }
        });
    }

    private static void newObjectHasNoneOf() {
        CASES.test("new: no IMAGE 0", c -> c.refuses(NO, "from", 0));
        CASES.test("new: no IMAGE 1", c -> c.refuses(NO, "from", 1));
        CASES.test("new: no MERCHANTS", c -> {
            c.refuses(BAD, "debt", 0, 1, 1, 0, 0).refuses(BAD, "purse", 0, 1, 1);
            c.refuses(BAD, "wide", 0, 1, 0).refuses(BAD, "better", 0, 1, 0);
            c.refuses(BAD_SILVER, "balance", 0, 0).refuses(BAD, "letter", 0, 1, 0, 0, 0);
            c.refuses(BAD, "knows", 0, 0, 0).refuses(BAD, "load", 0, 1, 0);
        });
        CASES.test("new: no DEBTS", c -> {
            c.refuses(BAD, "pay", 0, 0, 1).refuses(BAD, "seal", 0, 1);
            c.refuses(BAD, "breaks", 0, 0).refuses(BAD, "owed", 0, 0);
        });
        CASES.test("new: no PURSES", c -> {
            c.merchants(1).refuses(BAD, "share", 0, 0, 1);
            c.refuses(BAD, "leave", 0, 0, 0).refuses(BAD, "parted", 0, 0, 0);
        });
        CASES.test("new: no LETTERS", c -> c.refuses(BAD, "carries", 0));
        CASES.test("new: no MENTIONS", c -> c.gives(0, "men", NONE).refuses(-10, "men", 0));
        CASES.test("new: no LOADS", c -> c.gives(0, "unload").refuses(BAD_SILVER, "plan", 0, 0));
        CASES.test("new: THE PLAN of no LOADS", c -> c.gives(0, "plan", 0, NONE));
        CASES.test("new: no PAYMENTS are needed", c -> c.gives(0, "fewest", 0));
        CASES.test("new: no RING", c -> c.gives(0, "ring", 0, NONE).gives(NONE, "ring", 0, 0));
        CASES.test("new: no STONES", c -> c.gives(0, "span", 1, 0).gives(0, "span", 1, 1));
        CASES.test("new: no ACTS", c -> {
            for (int sort = 0; sort < 3; sort++) {
                c.gives(NONE, "force", sort, 0).gives(NONE, "force", sort, 99);
            }
        });
        CASES.test("new: nothing told of NAMES", c -> c.gives(0, "place", 8, 99, 0).gives(8, "place", 0, 99, 1));
    }

    // ---- promise 2

    private static void merchants() {
        CASES.bounds(BAD, NOTHING, "merchant", 2, 1).number(0, 0, 0, 4, 0).number(1, 0, 0, 1, 0);
        CASES.test("merchant: both numbers wrong", c -> c.refuses(BAD, "merchant", 5, 2));
        CASES.test("merchant: one like another one", c -> c.gives(0, "merchant", 3, 1).gives(1, "merchant", 3, 1));
        CASES.test("merchant: 0 .. 9 as they come, the 11th is too many", c -> {
            for (int i = 0; i < 10; i++) {
                c.gives(i, "merchant", 4 - i % 5, i % 2);
            }
            c.refuses(FULL, "merchant", 0, 0).gives(10, "count", 0);
        });
        CASES.test("merchant: BAD ahead of FULL", c -> {
            c.merchants(10).refuses(BAD, "merchant", 5, 0).refuses(BAD, "merchant", -1, 0);
            c.refuses(BAD, "merchant", 0, 2).refuses(BAD, "merchant", 0, -1);
        });
        CASES.test("merchant: the last one is there, the next is not", c -> {
            c.merchants(10).gives(0, "balance", 9, 0).refuses(BAD_SILVER, "balance", 10, 0);
        });
        CASES.test("merchant: one is there, the next is not", c -> {
            c.merchants(1).gives(0, "balance", 0, 0).refuses(BAD_SILVER, "balance", 1, 0);
        });
    }

    // ---- promises 3 and 4

    private static void writing() {
        CASES.bounds(BAD, NOTHING, "write", 1, 65).number(0, 0, 1, 3, 1).number(1, 0, 1, 127, 1);
        CASES.test("write: 50 characters, the 51st is too many", c -> {
            for (int i = 1; i <= 50; i++) {
                c.gives(i, "write", 3, '-');
            }
            c.refuses(FULL, "write", 3, '-').refuses(FULL, "write", 3, 0).gives(50, "erase", 3);
        });
        CASES.test("write: BAD ahead of FULL", c -> {
            c.times(50, "write", 0, '-').refuses(BAD, "write", 0, 128).refuses(BAD, "write", 0, -1);
            c.refuses(BAD, "write", 4, '-').refuses(BAD, "write", -1, '-');
        });
        CASES.test("write: a full TEXT fills no other one", c -> {
            c.times(50, "write", 1, '-').gives(1, "write", 0, '7').gives(1, "write", 2, '7');
            c.refuses(FULL, "write", 1, '7').gives(7, "tells", 2, 0, 0, 0, 0, 0);
        });
        CASES.test("write: a full TEXT that was erased", c -> {
            c.times(50, "write", 1, '-').gives(50, "erase", 1).gives(1, "write", 1, '7').gives(NONE, "fault", 1);
        });
        CASES.test("write: behind what is there", c -> {
            c.text(0, "12").gives(3, "write", 0, '3').gives(123, "tells", 0, 0, 0, 0, 0, 0);
        });
    }

    private static void erasing() {
        Consumer<Case> outer = c -> c.text(0, "12").text(3, "345");
        CASES.bounds(BAD, outer, "erase", 0).number(0, 0, 2, 3, 3);
        CASES.test("erase: an empty TEXT", c -> c.gives(0, "erase", 2).gives(0, "erase", 2));
        CASES.test("erase: one character", c -> c.text(2, "7").gives(1, "erase", 2).gives(1, "fault", 2));
        CASES.test("erase: 50 characters", c -> c.times(50, "write", 2, ' ').gives(50, "erase", 2));
        CASES.test("erase: no other TEXT", c -> {
            c.text(0, "1").text(1, "2").text(2, "3").gives(1, "erase", 1);
            c.gives(1, "tells", 0, 0, 0, 0, 0, 0).gives(3, "tells", 2, 0, 0, 0, 0, 0);
        });
    }

    // ---- promise 5: FAULT

    /** A faulty text: it tells nothing and is no act. */
    private static void fault(String text, int due) {
        CASES.test("fault of '" + text + "'", c -> {
            c.text(1, text).gives(due, "fault", 1);
            c.refuses(NO_TOLD, "tells", 1, 0, 0, 0, 0, 0).refuses(NO, "act", 1, 0, 0);
        });
    }

    /** A sound text and what it tells with g 3, k 1, t 0, s 42, w -1000. */
    private static void told(String text, long due) {
        CASES.test("tells of '" + text + "'", c -> {
            c.text(2, text).gives(NONE, "fault", 2);
            c.gives(due, "tells", 2, 3, 1, 0, 42, -1000).gives(0, "act", 2, 0, 99);
        });
    }

    private static void tooEarly() {
        fault("", 1);
        fault(" ", 11);
        fault(" ".repeat(50), 501);
        for (String sign : "! - (".split(" ")) {
            fault(sign, 11);
        }
        for (String sign : "+ - * / < > = & | ?".split(" ")) {
            fault("1" + sign, 21);
        }
        fault("1+ ", 31);
        fault("(1", 21);
        fault("(1 ", 31);
        fault("1?2", 31);
        fault("1?2:", 41);
        fault("1?2?3:4", 71);
        fault("-".repeat(50), 501);
        told("-".repeat(49) + "7", -7);
        fault("1?1?1?1?1?1?1?1?1?1?1?1?1?1?1?1?1?1?1?1?1?1?1?1?1?", 501);
        fault("1?1?1?1?1?1?1?1?1?1?1?1?1:1:1:1:1:1:1:1:1:1:1:1:1:", 491);
        told("1?1?1?1?1?1?1?1?1?1?1?1?1:1:1:1:1:1:1:1:1:1:1:1:11", 1);
    }

    private static void canNotStand() {
        for (String sign : ") + * / < > = & | ? :".split(" ")) {
            fault(sign, 1);
            fault("7+" + sign, 21);
        }
        char[] strange = {'x', 'G', 'K', 'T', 'S', 'W', 'a', '%', '~', '_', '[', ']', '{', '.', ',', '^', '\\', '"',
            '\t', '\n', '\r', 0, 1, 31, 127, ';', '@', 'f', 'h', 'j', 'l', 'r', 'u', 'v'};
        for (char sign : strange) {
            fault(sign + "1", 1);
            fault("1" + sign, 11);
        }
        fault("1 \t", 21);
        for (String sign : "g k t s w ! (".split(" ")) {
            fault("1" + sign, 11);
            fault("w" + sign, 11);
            fault("(1)" + sign, 31);
        }
        fault("g1", 11);
        fault("gk", 11);
        fault("(1)2", 31);
        fault("1!2", 11);
        fault("1!=2", 11);
        fault("1)", 11);
        fault("(1))", 31);
        fault("()", 11);
        fault("1++1", 21);
        fault("1*/1", 21);
        told("1--1", 2);
        told("1+-1", 0);
        told("2*-!-2", 0);
        told("((1))", 1);
    }

    private static void heldOnce() {
        for (String two : "<< <> <= >< >> >= =< => ==".split(" ")) {
            fault("1" + two.charAt(0) + "2" + two.charAt(1) + "3", 31);
            fault("1" + two, 21);
        }
        fault("1<2+3<4", 51);
        fault("(1<2<3)", 41);
        fault("1<2?3<4:5<6<7", 111);
        told("(1<2)<3", 1);
        told("1<(2<3)", 0);
        told("1<2&3<4", 1);
        told("1<2|3<4", 1);
        told("1<2?3<4:5<6", 1);
        fault("1&&2", 21);
        fault("1||2", 21);
    }

    private static void eitherOr() {
        fault("1:2", 11);
        fault("1?:3", 21);
        fault("1??2", 21);
        fault("1?2:3:4", 51);
        fault("1?2?3:4:5:6", 91);
        fault("1?(2:3)", 41);
        fault("(1?2):3", 41);
        fault("(1:2)", 21);
        fault("1?2:3?4", 71);
        fault("1?2)", 31);
        told("1?2?3:4:5", 3);
        told("0?2:3?4:5", 4);
        told("(1?2:3)?4:5", 4);
        told("1|0?2|0:3|0", 1);
    }

    private static void digits() {
        told("1", 1);
        told("123456", 123456);
        told("999999", 999999);
        told("000000", 0);
        told("000012", 12);
        fault("1234567", 2);
        fault("0000000", 2);
        fault("0000001", 2);
        fault("12345678", 2);
        fault("1".repeat(50), 2);
        fault(" 1234567", 12);
        fault("g+1234567", 22);
        fault("(1234567)", 12);
        fault("-1234567", 12);
        fault("123456+1234567", 72);
        fault("1?2:1234567", 42);
        told("123456+123456", 246912);
        fault("1234567x", 2);
        fault("123456x", 61);
        fault("x1234567", 1);
        fault("g1234567", 11);
        fault("1 1234567", 21);
        fault("1234567 1", 2);
        fault("((((((((1234567(", 82);
    }

    private static void openOnes() {
        told("((((((((1))))))))", 1);
        fault("(((((((((1)))))))))", 83);
        fault("((((((((((", 83);
        fault("((((((((-(", 93);
        fault("((((((((!(", 93);
        fault("(((((((( (", 93);
        fault("((((((((1+(", 103);
        fault("((((((((1(", 91);
        fault("(((((((((", 83);
        fault("((((((((", 81);
        told("(1)+(1)+(1)+(1)+(1)+(1)+(1)+(1)+(1)+(1)", 10);
        told("(((((((1)))))))+((((((((1))))))))", 2);
        fault("((((((((1)))))))+((", 191);
        fault("((((((((1)+(", 121);
        fault("((((((((1)+((", 123);
        fault("-(((((((((", 93);
        fault("1<2<(((((((((", 31);
    }

    private static void blanks() {
        told(" 7", 7);
        told("7 ", 7);
        told(" ".repeat(49) + "7", 7);
        told("7" + " ".repeat(49), 7);
        told(" ( 1 + 2 ) * - 3 ", -9);
        told("! 0", 1);
        told("- 7", -7);
        told("1 ? 2 : 3", 2);
        told("1 < 2 & 3 > 2 | 0 = 1", 1);
        told("( ( g ) )", 3);
        fault("1 2", 21);
        fault("12 34", 31);
        fault("12345 6", 61);
        fault("123456 7", 71);
        fault("g k", 21);
        fault("w 1", 21);
        fault("1 (2)", 21);
    }

    private static void faultOfText() {
        Consumer<Case> outer = c -> c.text(0, "1)").text(3, "7").text(1, "12)");
        CASES.bounds(BAD, outer, "fault", 0).number(0, 0, 11, 3, NONE);
        CASES.test("fault: one text's leaves nothing for the next", c -> {
            c.text(0, "((((((((1").text(1, "((((((((1))))))))").text(2, "1234567").text(3, "123456");
            c.gives(91, "fault", 0).gives(NONE, "fault", 1).gives(2, "fault", 2).gives(NONE, "fault", 3);
            c.gives(91, "fault", 0).gives(NONE, "fault", 3).gives(2, "fault", 2).gives(NONE, "fault", 1);
        });
        CASES.test("fault: mended by what is written behind it", c -> {
            c.text(0, "1+").gives(21, "fault", 0).tell("write", 0, '2').gives(NONE, "fault", 0);
            c.tell("write", 0, ')').gives(31, "fault", 0);
        });
    }

    // ---- promise 6: what a text tells

    private static void values() {
        told("g", 3);
        told("k", 1);
        told("t", 0);
        told("s", 42);
        told("w", -1000);
        told("-w", 1000);
        told("--w", -1000);
        told("(w)", -1000);
        told("7?8:9", 8);
        told("0?8:9", 9);
        told("w?8:9", 8);
        told("1?w:0", -1000);
        told("0-1", -1);
        told("2*3", 6);
    }

    private static void truths() {
        told("!0", 1);
        told("!1", 0);
        told("!7", 0);
        told("!-1", 0);
        told("!!7", 1);
        told("7", 7);
        told("7|0", 1);
        told("0|7", 1);
        told("0|-7", 1);
        told("0|0", 0);
        told("0|0|0", 0);
        told("0|0|5", 1);
        told("6&3", 1);
        told("4&3", 1);
        told("-1&-1", 1);
        told("7&0", 0);
        told("0&7", 0);
        told("3&3&0", 0);
        told("3&3&2", 1);
        told("1<2", 1);
        told("2<2", 0);
        told("3<2", 0);
        told("1>2", 0);
        told("2>2", 0);
        told("3>2", 1);
        told("1=2", 0);
        told("2=2", 1);
        told("-1<0", 1);
        told("0>-1", 1);
    }

    /** What a text tells about w alone. */
    private static void about(String text, long w, long due) {
        CASES.test("tells of '" + text + "' about " + w, c -> {
            c.text(0, text).gives(due, "tells", 0, 0, 0, 0, 0, w);
        });
    }

    private static void wraps() {
        about("w", Long.MAX_VALUE, Long.MAX_VALUE);
        about("w", Long.MIN_VALUE, Long.MIN_VALUE);
        about("w+1", Long.MAX_VALUE - 1, Long.MAX_VALUE);
        about("w+1", Long.MAX_VALUE, Long.MIN_VALUE);
        about("w-1", Long.MIN_VALUE + 1, Long.MIN_VALUE);
        about("w-1", Long.MIN_VALUE, Long.MAX_VALUE);
        about("-w", Long.MIN_VALUE + 1, Long.MAX_VALUE);
        about("-w", Long.MIN_VALUE, Long.MIN_VALUE);
        about("w*2", Long.MAX_VALUE, -2);
        about("w*2", Long.MAX_VALUE / 2, Long.MAX_VALUE - 1);
        about("w*2", Long.MIN_VALUE, 0);
        about("w/-1", Long.MIN_VALUE, Long.MIN_VALUE);
        about("w*-1", Long.MIN_VALUE, Long.MIN_VALUE);
        about("w<0", Long.MIN_VALUE, 1);
        about("w>0", Long.MAX_VALUE, 1);
        about("w>0", Long.MIN_VALUE, 0);
        about("!w", Long.MIN_VALUE, 0);
        about("w&1", Long.MIN_VALUE, 1);
        about("w?1:0", 1L << 32, 1);
        about("w=0", 1L << 32, 0);
        told("999999*999999", 999998000001L);
        told("999999*999999*999999*999999*999999*999999", -7485592696623439231L);
    }

    private static void quotients() {
        about("w/2", 7, 3);
        about("w/2", -7, -3);
        about("w/-2", 7, -3);
        about("w/-2", -7, 3);
        about("w/8", 7, 0);
        about("w/8", -7, 0);
        about("w/0", 7, 0);
        about("w/0", 0, 0);
        about("w/0", Long.MIN_VALUE, 0);
        about("7/w", 0, 0);
        about("7/w", 1, 7);
        about("7/w", -1, -7);
        told("7/0+3", 3);
        told("7/0*5", 0);
        told("7/(1-1)", 0);
        told("1|7/0", 1);
        told("0&7/0", 0);
        told("1?2:7/0", 2);
        told("0?7/0:3", 3);
        told("0?1/0:2/0", 0);
    }

    /** What binds closer, and from which side. */
    private static void binds() {
        told("1+2*3", 7);
        told("(1+2)*3", 9);
        told("10-2-3", 5);
        told("10-2+3", 11);
        told("100/7/2", 7);
        told("100/7*2", 28);
        told("100*7/2", 350);
        told("-2*3", -6);
        told("-2+3", 1);
        told("!1+1", 1);
        told("!0*5", 5);
        told("-!0", -1);
        told("!-3+1", 1);
        told("1+1=2", 1);
        told("1<2+1", 1);
        told("1=2&0", 0);
        told("0=1|5", 1);
        told("4|0&0", 1);
        told("(4|0)&0", 0);
        told("0&0|4", 1);
        told("0|1?2:3", 2);
        told("1?2:3+4", 2);
        told("0?2:3+4", 7);
        told("(0?2:3)+4", 7);
        told("1?0?3:4:5", 4);
        told("0?1:0?2:3", 3);
        told("0?1:4?2:3", 2);
    }

    private static void tellsByNumbers() {
        Consumer<Case> all = c -> c.text(0, "g*1000+k*200+t*100+s").text(3, "w");
        CASES.bounds(BAD_TOLD, all, "tells", 0, 1, 0, 0, 7, 0)
                .number(0, 0, 1007, 3, 0).number(1, 0, 7, 5, 5007).number(2, 0, 1007, 1, 1207)
                .number(3, 0, 1007, 1, 1107).number(4, 0, 1000, 99, 1099);
        CASES.test("tells: all numbers at most", c -> {
            all.accept(c);
            c.gives(5399, "tells", 0, 5, 1, 1, 99, Long.MAX_VALUE);
        });
        CASES.test("tells: all numbers at least", c -> {
            all.accept(c);
            c.gives(0, "tells", 0, 0, 0, 0, 0, Long.MIN_VALUE);
        });
    }

    private static void tellsRefused() {
        CASES.test("tells: a TEXT with FAULT", c -> c.text(0, "7+").refuses(NO_TOLD, "tells", 0, 0, 0, 0, 0, 0));
        CASES.test("tells: an empty TEXT", c -> c.refuses(NO_TOLD, "tells", 3, 5, 1, 1, 99, 0));
        CASES.test("tells: BAD ahead of NO", c -> {
            c.refuses(BAD_TOLD, "tells", 0, 6, 0, 0, 0, 0).refuses(BAD_TOLD, "tells", 0, -1, 0, 0, 0, 0);
            c.refuses(BAD_TOLD, "tells", 0, 0, 2, 0, 0, 0).refuses(BAD_TOLD, "tells", 0, 0, -1, 0, 0, 0);
            c.refuses(BAD_TOLD, "tells", 0, 0, 0, 2, 0, 0).refuses(BAD_TOLD, "tells", 0, 0, 0, -1, 0, 0);
            c.refuses(BAD_TOLD, "tells", 0, 0, 0, 0, 100, 0).refuses(BAD_TOLD, "tells", 0, 0, 0, 0, -1, 0);
        });
        CASES.test("tells: no number of its answer is a refusal", c -> {
            c.text(0, "w").gives(BAD, "tells", 0, 0, 0, 0, 0, BAD).gives(BAD_TOLD, "tells", 0, 0, 0, 0, 0, BAD_TOLD);
        });
    }

    // ---- promises 7 and 8

    private static void acts() {
        Consumer<Case> sound = c -> c.text(0, "7").text(3, "8").text(1, "9");
        CASES.bounds(BAD, sound, "act", 1, 1, 5).number(0, 0, 0, 3, 0).number(1, 0, 0, 2, 0).number(2, 0, 0, 99, 0);
        CASES.test("act: 0 .. 15 as they come, the 17th is too many", c -> {
            c.text(0, "7");
            for (int i = 0; i < 16; i++) {
                c.gives(i, "act", 0, i % 3, i);
            }
            c.refuses(FULL, "act", 0, 0, 0).refuses(FULL, "act", 0, 2, 99).gives(16, "count", 1);
        });
        CASES.test("act: all 16 of 50 characters", c -> {
            c.merchants(1).tell("gate", 0).text(0, "-".repeat(49) + "7");
            c.times(15, "act", 0, 0, 0).text(0, "-".repeat(48) + "70").gives(15, "act", 0, 0, 1);
            c.gives(1000, "wide", 0, 1000, 0).gives(300, "wide", 0, 1000, 1);
        });
        CASES.test("act: a TEXT as it is then, erased", c -> {
            c.merchants(1).tell("gate", 0).text(0, "50").gives(0, "act", 0, 0, 0);
            c.gives(2, "erase", 0).gives(50, "wide", 0, 100, 0);
        });
        CASES.test("act: a TEXT as it is then, written behind", c -> {
            c.merchants(1).tell("gate", 0).text(0, "5").gives(0, "act", 0, 0, 0);
            c.tell("write", 0, '0').gives(95, "wide", 0, 100, 0).gives(50, "tells", 0, 0, 0, 0, 0, 0);
        });
        CASES.test("act: a TEXT as it is then, faulty now", c -> {
            c.merchants(1).tell("gate", 0).text(0, "50").gives(0, "act", 0, 0, 0);
            c.tell("write", 0, '(').gives(21, "fault", 0).gives(50, "wide", 0, 100, 0);
        });
        CASES.test("act: one TEXT for two", c -> {
            c.text(0, "7").gives(0, "act", 0, 0, 0).gives(1, "act", 0, 0, 0).gives(2, "act", 0, 1, 0);
        });
    }

    private static void actsRefused() {
        CASES.test("act: NO of an empty TEXT", c -> c.refuses(NO, "act", 3, 2, 99).gives(0, "count", 1));
        CASES.test("act: NO of a TEXT with FAULT", c -> c.text(0, "(7").refuses(NO, "act", 0, 0, 0));
        CASES.test("act: BAD ahead of NO", c -> {
            c.refuses(BAD, "act", 0, 3, 0).refuses(BAD, "act", 0, -1, 0);
            c.refuses(BAD, "act", 0, 0, 100).refuses(BAD, "act", 0, 0, -1).refuses(BAD, "act", 4, 0, 0);
        });
        CASES.test("act: BAD and NO ahead of FULL", c -> {
            c.text(0, "7").times(16, "act", 0, 0, 0).refuses(NO, "act", 1, 0, 0);
            c.refuses(BAD, "act", 0, 3, 0).refuses(BAD, "act", 0, 0, 100).refuses(BAD, "act", 4, 0, 0);
            c.refuses(BAD, "act", 1, 3, 0).refuses(BAD, "act", 1, 0, 100).refuses(FULL, "act", 0, 0, 0);
        });
    }

    private static void inForce() {
        Consumer<Case> each = c -> c.act("1", 0, 0).act("1", 2, 40);
        CASES.bounds(BAD, each, "force", 1, 50).number(0, 0, 0, 2, 1);
        CASES.bounds(BAD, each, "force", 0, 50).number(1, 0, 0, 99, 0);
        CASES.test("force: from its SEASON on", c -> {
            c.act("1", 1, 40).gives(NONE, "force", 1, 39).gives(0, "force", 1, 40).gives(0, "force", 1, 99);
        });
        CASES.test("force: from SEASON 99 on", c -> c.act("1", 1, 99).gives(NONE, "force", 1, 98).gives(0, "force", 1, 99));
        CASES.test("force: from SEASON 0 on", c -> c.act("1", 1, 0).gives(0, "force", 1, 0).gives(0, "force", 1, 99));
        CASES.test("force: the one of the latest SEASON", c -> {
            c.act("1", 0, 10).act("2", 0, 20).gives(0, "force", 0, 19).gives(1, "force", 0, 20);
        });
        CASES.test("force: not the one told last", c -> {
            c.act("1", 0, 20).act("2", 0, 10).gives(1, "force", 0, 19).gives(0, "force", 0, 20);
        });
        CASES.test("force: of like ones the greatest number", c -> {
            c.act("1", 0, 10).act("2", 0, 10).gives(1, "force", 0, 10);
            c.act("3", 0, 9).gives(1, "force", 0, 10).act("4", 0, 10).gives(3, "force", 0, 10);
            c.gives(2, "force", 0, 9).gives(NONE, "force", 0, 8);
        });
        CASES.test("force: no ACT of another sort", c -> {
            c.act("1", 0, 0).act("2", 2, 5).gives(NONE, "force", 1, 99);
            c.gives(0, "force", 0, 99).gives(1, "force", 2, 99).gives(NONE, "force", 2, 4);
        });
        CASES.test("force: the last of 16", c -> {
            c.text(0, "1").times(15, "act", 0, 1, 5).gives(14, "force", 1, 5);
            c.gives(15, "act", 0, 1, 5).gives(15, "force", 1, 5);
        });
    }
}
