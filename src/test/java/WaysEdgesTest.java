import java.util.function.Consumer;

/** Promises 18 to 24, every boundary that the document names: gates, the two ways, stones. */
public final class WaysEdgesTest {
    private static final int BAD = TinHouse.BAD, FULL = TinHouse.FULL;
    private static final int TOLL = 0, RATE = 1, SHARE = 2;
    private static final Consumer<Case> NOTHING = c -> { };
    private static final Cases CASES = new Cases("WaysEdgesTest");

    public static void main(String[] args) {
        gates();
        wide();
        tollOfTheSeason();
        tollByNumbers();
        narrow();
        mean();
        better();
        stones();
        span();
        spanMeets();
        CASES.end();
    }

    // ---- promise 18

    private static void gates() {
        CASES.bounds(BAD, NOTHING, "gate", 0).number(0, 0, 1, 1, 1);
        CASES.test("gate: six, the 7th is too many", c -> {
            for (int i = 1; i <= 6; i++) {
                c.gives(i, "gate", i % 2);
            }
            c.refuses(FULL, "gate", 0).refuses(FULL, "gate", 1).gives(6, "count", 5);
        });
        CASES.test("gate: BAD ahead of FULL", c -> {
            c.times(6, "gate", 1).refuses(BAD, "gate", 2).refuses(BAD, "gate", -1).refuses(FULL, "gate", 1);
        });
    }

    // ---- promise 19

    private static void wide() {
        Consumer<Case> one = c -> c.merchants(2).tell("gate", 0).act("k?10:20", TOLL, 50);
        CASES.bounds(BAD, one, "wide", 0, 1000, 60)
                .number(0, 0, 900, 1, 800).number(1, 1, 1, 1000000, 900000).number(2, 0, 950, 99, 900);
        CASES.test("wide: no gates", c -> {
            c.merchants(1).act("100", TOLL, 0).gives(1, "wide", 0, 1, 0).gives(1000000, "wide", 0, 1000000, 99);
        });
        CASES.test("wide: a toll is cut to nothing at 19, 1 at 20", c -> {
            c.merchants(1).tell("gate", 0).gives(19, "wide", 0, 19, 0).gives(19, "wide", 0, 20, 0);
            c.gives(38, "wide", 0, 39, 0).gives(38, "wide", 0, 40, 0);
        });
        CASES.test("wide: what is left pays at the next gate", c -> {
            c.merchants(1).tell("gate", 0).gives(950, "wide", 0, 1000, 0).tell("gate", 0).gives(903, "wide", 0, 1000, 0);
            c.tell("gate", 0).gives(858, "wide", 0, 1000, 0);
        });
        CASES.test("wide: all six gates", c -> {
            c.merchants(1).times(6, "gate", 1).act("50", TOLL, 0).gives(1, "wide", 0, 1, 0);
            c.gives(1, "wide", 0, 64, 0).gives(15625, "wide", 0, 1000000, 0);
        });
        CASES.test("wide: nothing is left", c -> {
            c.merchants(1).times(2, "gate", 1).act("100", TOLL, 0).gives(0, "wide", 0, 1, 0);
            c.gives(0, "wide", 0, 1000000, 0);
        });
    }

    /** What one gate leaves of 1000 by what the text tells. */
    private static void toll(String text, int due) {
        CASES.test("TOLL by '" + text + "'", c -> {
            c.merchants(1).tell("gate", 1).act(text, TOLL, 0).gives(due, "wide", 0, 1000, 7);
        });
    }

    private static void tollOfTheSeason() {
        toll("0", 1000);
        toll("-1", 1000);
        toll("1", 990);
        toll("99", 10);
        toll("100", 0);
        toll("101", 0);
        toll("999999*999999*999999", 0);
        toll("-999999*999999*999999", 1000);
        CASES.test("TOLL without an ACT is 5, from its SEASON on by it", c -> {
            c.merchants(1).tell("gate", 1).act("10", TOLL, 7).gives(950, "wide", 0, 1000, 6);
            c.gives(900, "wide", 0, 1000, 7).gives(900, "wide", 0, 1000, 99);
        });
        CASES.test("TOLL by the ACT of the latest SEASON", c -> {
            c.merchants(1).tell("gate", 1).act("10", TOLL, 7).act("20", TOLL, 9).act("30", TOLL, 8);
            c.gives(900, "wide", 0, 1000, 7).gives(700, "wide", 0, 1000, 8).gives(800, "wide", 0, 1000, 9);
        });
        CASES.test("TOLL by no ACT of another sort", c -> {
            c.merchants(1).tell("gate", 1).act("10", RATE, 0).act("20", SHARE, 0).gives(950, "wide", 0, 1000, 7);
        });
    }

    private static void tollByNumbers() {
        CASES.test("TOLL: g is the GATE, 0 .. 5", c -> {
            c.merchants(1).times(6, "gate", 1).act("g=0?10:g=5?50:0", TOLL, 0).gives(450, "wide", 0, 1000, 0);
        });
        CASES.test("TOLL: g of each GATE", c -> {
            c.merchants(1).times(6, "gate", 0).act("g*10", TOLL, 0);
            c.gives(100000 * 9 / 10 * 8 / 10 * 7 / 10 * 6 / 10 * 5 / 10, "wide", 0, 100000, 0);
        });
        CASES.test("TOLL: k is 1 where his TOWN is that of the land, whatever his HOUSE", c -> {
            c.tell("merchant", 0, 0).tell("merchant", 0, 1).tell("merchant", 1, 0);
            c.tell("gate", 0).act("k?10:20", TOLL, 0);
            c.gives(900, "wide", 0, 1000, 0).gives(800, "wide", 1, 1000, 0).gives(900, "wide", 2, 1000, 0);
        });
        CASES.test("TOLL: k in the other land", c -> {
            c.merchants(2).tell("gate", 1).act("k?10:20", TOLL, 0);
            c.gives(800, "wide", 0, 1000, 0).gives(900, "wide", 1, 1000, 0);
        });
        CASES.test("TOLL: k is a truth, 1 or 0", c -> {
            c.merchants(2).tell("gate", 1).act("k*10", TOLL, 0);
            c.gives(1000, "wide", 0, 1000, 0).gives(900, "wide", 1, 1000, 0);
        });
        CASES.test("TOLL: k of each GATE's land", c -> {
            c.merchants(3).tell("gate", 0).tell("gate", 1).tell("gate", 1).tell("gate", 0).tell("gate", 1);
            c.act("k?g*10+10:0", TOLL, 0).gives(1000 * 9 / 10 * 6 / 10, "wide", 0, 1000, 0);
            c.gives(1000 * 8 / 10 * 7 / 10 * 5 / 10, "wide", 1, 1000, 0).gives(540, "wide", 2, 1000, 0);
        });
        CASES.test("TOLL: t of each GATE's land", c -> {
            c.merchants(2).tell("gate", 0).tell("gate", 1).tell("gate", 1).tell("gate", 0).tell("gate", 1);
            c.act("t?g*10+10:0", TOLL, 0).gives(280, "wide", 0, 1000, 0).gives(280, "wide", 1, 1000, 0);
        });
        CASES.test("TOLL: t is the land, not his TOWN", c -> {
            c.merchants(2).tell("gate", 1).act("t?10:20", TOLL, 0);
            c.gives(900, "wide", 0, 1000, 0).gives(900, "wide", 1, 1000, 0);
        });
        CASES.test("TOLL: t is 0 in land 0", c -> {
            c.merchants(2).tell("gate", 0).act("t?10:20", TOLL, 0);
            c.gives(800, "wide", 0, 1000, 0).gives(800, "wide", 1, 1000, 0);
        });
        CASES.test("TOLL: s is the SEASON", c -> {
            c.merchants(1).tell("gate", 0).act("s", TOLL, 0).gives(1000, "wide", 0, 1000, 0);
            c.gives(930, "wide", 0, 1000, 7).gives(10, "wide", 0, 1000, 99);
        });
        CASES.test("TOLL: w is what is left at the GATE", c -> {
            c.merchants(1).tell("gate", 0).tell("gate", 0).act("w=1000?10:w=900?50:0", TOLL, 0);
            c.gives(450, "wide", 0, 1000, 0);
        });
    }

    // ---- promises 20 and 21

    private static void narrow() {
        CASES.bounds(BAD, NOTHING, "narrow", 20).number(0, 2, 10, 100, 10);
        CASES.test("narrow: what it was", c -> c.gives(10, "narrow", 2).gives(2, "narrow", 100).gives(100, "narrow", 10));
        CASES.test("narrow: a refused one leaves n", c -> {
            c.gives(10, "narrow", 7).refuses(BAD, "narrow", 1).refuses(BAD, "narrow", 101).gives(7, "narrow", 7);
        });
    }

    private static Consumer<Case> fraction(long above, long below) {
        return c -> c.gives(above, "part", 0).gives(below, "part", 1);
    }

    /** MEAN of a weight, n of THE NARROW WAY told. */
    private static void mean(int n, int weight, long above, long below) {
        CASES.test("mean(" + weight + ") where n is " + n, c -> {
            c.tell("narrow", n).gives(1, "mean", weight);
            fraction(above, below).accept(c);
        });
    }

    private static void mean() {
        CASES.bounds(BAD, NOTHING, "mean", 7).number(0, 1, 1, 1000000, 1);
        mean(10, 1, 9, 10);
        mean(10, 1000000, 900000, 1);
        mean(2, 1, 1, 2);
        mean(2, 2, 1, 1);
        mean(2, 999999, 999999, 2);
        mean(100, 1, 99, 100);
        mean(100, 1000000, 990000, 1);
        mean(100, 999999, 98999901, 100);
        mean(10, 15, 27, 2);
        mean(10, 4, 18, 5);
        CASES.test("mean: n is 10 at first", c -> {
            c.gives(1, "mean", 3);
            fraction(27, 10).accept(c);
        });
        CASES.test("mean: a refused one leaves THE FRACTION", c -> {
            c.gives(1, "mean", 3).refuses(BAD, "mean", 0).refuses(BAD, "mean", 1000001);
            fraction(27, 10).accept(c);
        });
        CASES.test("narrow: THE FRACTION stays", c -> {
            c.gives(1, "mean", 3).gives(10, "narrow", 5);
            fraction(27, 10).accept(c);
        });
    }

    // ---- promise 22

    /** BETTER of a weight where n is 10 and one gate takes so many of a hundred. */
    private static void better(int toll, int weight, int due) {
        CASES.test("better of " + weight + " at TOLL " + toll, c -> {
            c.merchants(1).tell("gate", 0).act(Integer.toString(toll), TOLL, 0).gives(due, "better", 0, weight, 0);
        });
    }

    private static void better() {
        Consumer<Case> one = c -> c.merchants(2).tell("gate", 0).act("k?0:100", TOLL, 50);
        CASES.bounds(BAD, one, "better", 1, 1000, 60)
                .number(0, 0, 0, 1, 1).number(1, 1, 1, 1000000, 1).number(2, 0, 0, 99, 1);
        better(10, 1000, 0);
        better(9, 1000, 0);
        better(11, 1000, 1);
        better(10, 10, 0);
        better(10, 9, 0);
        better(10, 11, 0);
        better(11, 9, 0);
        better(12, 9, 1);
        better(11, 10, 0);
        better(20, 10, 1);
        better(100, 1, 1);
        better(0, 1000000, 0);
        CASES.test("better: no gates", c -> c.merchants(1).gives(0, "better", 0, 1, 0).gives(0, "better", 0, 1000000, 0));
        CASES.test("better: THE FRACTION stays", c -> {
            c.merchants(1).tell("mean", 3).gives(0, "better", 0, 1000, 0);
            fraction(27, 10).accept(c);
        });
    }

    // ---- promise 23

    private static void stones() {
        CASES.bounds(BAD, NOTHING, "stone", 7, 10, 0)
                .number(0, 1, 1, 10000, 1).number(1, 1, 1, 10000, 1).number(2, 0, 1, 9, 1);
        CASES.bounds(BAD, NOTHING, "stone", 7, 10, 9).number(1, 10, 1, 10000, 1);
        CASES.bounds(BAD, NOTHING, "stone", 7, 1, 0).number(2, 0, 1, 0, 1);
        CASES.bounds(BAD, NOTHING, "stone", 7, 10000, 0).number(2, 0, 1, 9999, 1);
        CASES.test("stone: no e where b is not as told", c -> {
            c.refuses(BAD, "stone", 1, 0, 0).refuses(BAD, "stone", 1, -5, 0).refuses(BAD, "stone", 1, 10001, 10000);
            c.refuses(BAD, "stone", 1, Integer.MIN_VALUE, 5).refuses(BAD, "stone", 1, 0, -1);
        });
        CASES.test("stone: twelve, the 13th is too many", c -> {
            for (int i = 1; i <= 12; i++) {
                c.gives(i, "stone", i, i, i - 1);
            }
            c.refuses(FULL, "stone", 1, 1, 0).gives(12, "count", 6);
        });
        CASES.test("stone: BAD ahead of FULL", c -> {
            c.times(12, "stone", 5, 5, 0).refuses(BAD, "stone", 0, 5, 0).refuses(BAD, "stone", 10001, 5, 0);
            c.refuses(BAD, "stone", 5, 0, 0).refuses(BAD, "stone", 5, 10001, 0).refuses(BAD, "stone", 5, 5, 5);
            c.refuses(BAD, "stone", 5, 5, -1).refuses(FULL, "stone", 5, 5, 4);
        });
    }

    // ---- promise 24

    private static void span() {
        Consumer<Case> one = c -> c.tell("stone", 10, 12, 3);
        CASES.bounds(BAD, one, "span", 25, 1).number(0, 1, 1, 1000000, 1).number(1, 0, 1, 1, 1);
        CASES.test("span: none told", c -> {
            c.tell("mean", 3).gives(0, "span", 1, 0).gives(0, "span", 1000000, 1);
            fraction(27, 10).accept(c);
        });
        CASES.test("span: BAD where none is told", c -> {
            c.refuses(BAD, "span", 0, 0).refuses(BAD, "span", 1, 2).refuses(BAD, "span", 1000001, 0);
        });
        end("one stone, lower", 25, 0, 45, 2, new int[][] {{10, 12, 3}});
        end("one stone, upper", 25, 1, 75, 2, new int[][] {{10, 12, 3}});
        end("no more or less, lower", 7, 0, 84, 5, new int[][] {{10, 24, 0}});
        end("no more or less, upper", 7, 1, 84, 5, new int[][] {{10, 24, 0}});
        end("least of all", 1, 0, 1, 10000, new int[][] {{10000, 1, 0}});
        end("all but e, lower", 1000000, 0, 1000000, 1, new int[][] {{1, 10000, 9999}});
        end("all and e, upper", 1000000, 1, 19999000000L, 1, new int[][] {{1, 10000, 9999}});
        int[][] three = {{10, 20, 8}, {10, 21, 3}, {10, 22, 6}};
        end("the greatest of the lower ones, in the middle", 10, 0, 18, 1, three);
        end("the least of the upper ones, in the middle", 10, 1, 24, 1, three);
        int[][] outer = {{10, 20, 1}, {10, 20, 5}, {10, 20, 2}};
        end("the greatest of the lower ones, the first", 10, 0, 19, 1, outer);
        end("the least of the upper ones, the first", 10, 1, 21, 1, outer);
        int[][] last = {{10, 20, 5}, {10, 20, 4}, {100, 200, 1}};
        end("the greatest of the lower ones, the last", 100, 0, 199, 1, last);
        end("the least of the upper ones, the last", 100, 1, 201, 1, last);
        int[][] apart = {{10, 24, 10}, {10, 19, 5}};
        end("the ends of two stones, lower", 10, 0, 14, 1, apart);
        end("the ends of two stones, upper", 10, 1, 24, 1, apart);
        CASES.test("span: a refused one leaves THE FRACTION", c -> {
            c.tell("stone", 10, 12, 3).gives(1, "span", 25, 0).refuses(BAD, "span", 0, 1).refuses(BAD, "span", 25, 2);
            fraction(45, 2).accept(c);
        });
    }

    /** The end of SPAN of x by the stones told. */
    private static void end(String what, int x, int which, long above, long below, int[][] stones) {
        CASES.test("span: " + what, c -> {
            for (int[] stone : stones) {
                c.tell("stone", stone[0], stone[1], stone[2]);
            }
            c.gives(1, "span", x, which);
            fraction(above, below).accept(c);
        });
    }

    private static void spanMeets() {
        CASES.test("span: they meet in one point", c -> {
            c.tell("stone", 10, 11, 1).tell("stone", 10, 9, 1).gives(1, "span", 7, 0);
            fraction(7, 1).accept(c);
            c.gives(1, "span", 7, 1);
            fraction(7, 1).accept(c);
        });
        CASES.test("span: they do not meet, by the least there is", c -> {
            c.tell("stone", 10000, 10000, 0).gives(1, "span", 7, 0).tell("stone", 10000, 9999, 0);
            c.gives(0, "span", 7, 0).gives(0, "span", 7, 1);
            fraction(7, 1).accept(c);
        });
        CASES.test("span: they do not meet, told the other way", c -> {
            c.tell("stone", 10000, 9999, 0).tell("stone", 10000, 10000, 0).gives(0, "span", 7, 0).gives(0, "span", 7, 1);
        });
        CASES.test("span: fractions close to one another do not meet", c -> {
            c.tell("stone", 9999, 10000, 0).tell("stone", 9998, 9999, 0).gives(0, "span", 1, 0).gives(0, "span", 1, 1);
        });
        CASES.test("span: like fractions meet", c -> {
            c.tell("stone", 5000, 10000, 0).tell("stone", 1, 2, 0).gives(1, "span", 1000000, 0);
            fraction(2000000, 1).accept(c);
        });
        CASES.test("span: the 12th stone counts", c -> {
            c.times(11, "stone", 10, 20, 5).gives(1, "span", 10, 0).tell("stone", 10, 31, 5).gives(0, "span", 10, 0);
        });
        CASES.test("span: the first and the last of three do not meet", c -> {
            c.tell("stone", 10, 20, 4).tell("stone", 10, 24, 4).tell("stone", 10, 30, 5);
            c.gives(0, "span", 10, 0).gives(0, "span", 10, 1);
        });
    }
}
