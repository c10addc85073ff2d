import java.util.function.Consumer;

/** Promises 28 to 37, every boundary that the document names: names of years, letters, mentions. */
public final class NamesEdgesTest {
    private static final int NONE = TinHouse.NONE, BAD = TinHouse.BAD, FULL = TinHouse.FULL;
    private static final int BAD_MEN = -10;
    private static final Consumer<Case> NOTHING = c -> { };
    private static final Consumer<Case> THREE = c -> c.merchants(3);
    private static final Cases CASES = new Cases("NamesEdgesTest");

    public static void main(String[] args) {
        names();
        ahead();
        orders();
        known();
        places();
        rows();
        noOrder();
        letters();
        lettersRefused();
        knows();
        onTheWay();
        carries();
        mentions();
        men();
        oneMan();
        menInSets();
        CASES.end();
    }

    // ---- promise 28

    private static void names() {
        CASES.bounds(BAD, NOTHING, "names", 5).number(0, 1, 1, 9, 1);
        int[] factorials = {1, 2, 6, 24, 120, 720, 5040, 40320, 362880};
        for (int n = 1; n <= 9; n++) {
            int many = n;
            CASES.test("names: " + n + " NAMES", c -> {
                c.gives(1, "names", many).gives(factorials[many - 1], "orders", 99);
                c.gives(many - 1, "order", 99, many - 1).refuses(BAD, "order", 99, many);
                c.gives(many - 1, "place", 0, 0, 1).gives(0, "place", many - 1, 0, 0);
            });
        }
        CASES.test("names: nothing told of them", c -> {
            c.tell("names", 4).tell("ahead", 1, 0, 0).tell("ahead", 0, 2, 0).gives(1, "names", 4);
            c.gives(0, "count", 7).gives(24, "orders", 99).gives(1, "ahead", 2, 0, 0);
        });
        CASES.test("names: a refused one leaves what is told", c -> {
            c.tell("names", 4).tell("ahead", 1, 0, 0).refuses(BAD, "names", 0).refuses(BAD, "names", 10);
            c.gives(1, "count", 7).gives(12, "orders", 0);
        });
        CASES.test("names: more again", c -> {
            c.tell("names", 2).tell("ahead", 1, 0, 0).gives(1, "names", 9).gives(362880, "orders", 99);
        });
    }

    // ---- promise 29

    private static void ahead() {
        CASES.bounds(BAD, NOTHING, "ahead", 4, 5, 50).number(0, 0, 1, 8, 1).number(2, 0, 1, 99, 1);
        CASES.bounds(BAD, NOTHING, "ahead", 4, 5, 50).number(1, 0, 1, 8, 1);
        Consumer<Case> three = c -> c.tell("names", 3);
        CASES.bounds(BAD, three, "ahead", 1, 0, 50).number(0, 1, 1, 2, 1).refused(0, 0).refused(0, -1);
        CASES.bounds(BAD, three, "ahead", 0, 1, 50).number(1, 1, 1, 2, 1).refused(1, -1);
        CASES.test("ahead: alike", c -> {
            c.refuses(BAD, "ahead", 0, 0, 50).refuses(BAD, "ahead", 8, 8, 50).gives(0, "count", 7);
        });
        CASES.test("ahead: of one NAME", c -> {
            c.tell("names", 1).refuses(BAD, "ahead", 0, 0, 0).refuses(BAD, "ahead", 0, 1, 0).refuses(BAD, "ahead", 1, 0, 0);
        });
        CASES.test("ahead: 40, the 41st is too many", c -> {
            c.tell("names", 5);
            for (int i = 1; i <= 40; i++) {
                c.gives(i, "ahead", i % 4, i % 4 + 1, i);
            }
            c.refuses(FULL, "ahead", 4, 0, 0).refuses(FULL, "ahead", 0, 1, 99).gives(40, "count", 7);
            c.gives(1, "orders", 99);
        });
        CASES.test("ahead: BAD ahead of FULL", c -> {
            c.tell("names", 5).times(40, "ahead", 0, 1, 0).refuses(BAD, "ahead", 1, 1, 0).refuses(BAD, "ahead", 5, 0, 0);
            c.refuses(BAD, "ahead", -1, 0, 0).refuses(BAD, "ahead", 0, 5, 0).refuses(BAD, "ahead", 0, -1, 0);
            c.refuses(BAD, "ahead", 0, 1, 100).refuses(BAD, "ahead", 0, 1, -1).refuses(FULL, "ahead", 1, 2, 0);
        });
        CASES.test("ahead: the 40th counts", c -> {
            c.tell("names", 3).times(39, "ahead", 0, 1, 0).gives(3, "orders", 0).gives(40, "ahead", 1, 2, 0);
            c.gives(1, "orders", 0);
        });
        CASES.test("ahead: anew behind FULL", c -> {
            c.tell("names", 3).times(40, "ahead", 0, 1, 0).gives(1, "names", 3).gives(1, "ahead", 0, 1, 0);
        });
    }

    // ---- promise 30

    private static void orders() {
        Consumer<Case> one = c -> c.tell("names", 4).tell("ahead", 3, 1, 50);
        CASES.bounds(BAD, one, "orders", 60).number(0, 0, 24, 99, 12);
        CASES.test("orders: one and the same told twice", c -> {
            c.tell("names", 4).tell("ahead", 3, 1, 0).tell("ahead", 3, 1, 0).gives(12, "orders", 0);
        });
        CASES.test("orders: what follows from it told, too", c -> {
            c.tell("names", 4).tell("ahead", 3, 1, 0).tell("ahead", 1, 0, 0).gives(4, "orders", 0);
            c.tell("ahead", 3, 0, 0).gives(4, "orders", 0);
        });
        CASES.test("orders: one of nine", c -> {
            for (int name = 8; name > 0; name--) {
                c.tell("ahead", name, name - 1, 0);
            }
            c.gives(1, "orders", 0).gives(8, "order", 0, 0).gives(0, "order", 0, 8);
        });
        CASES.test("orders: eight behind one", c -> {
            for (int name = 0; name < 8; name++) {
                c.tell("ahead", 8, name, 0);
            }
            c.gives(40320, "orders", 0).gives(0, "place", 8, 0, 1).gives(1, "place", 0, 0, 0).gives(8, "place", 0, 0, 1);
        });
        CASES.test("orders: eight ahead of one", c -> {
            for (int name = 1; name < 9; name++) {
                c.tell("ahead", name, 0, 0);
            }
            c.gives(40320, "orders", 0).gives(8, "place", 0, 0, 0).gives(0, "order", 0, 8);
        });
    }

    private static void known() {
        CASES.test("KNOWN from a number on, and ahead of it", c -> {
            c.tell("names", 3).tell("ahead", 2, 0, 50).gives(6, "orders", 49).gives(3, "orders", 50);
            c.gives(3, "orders", 51).gives(0, "order", 49, 0).gives(1, "order", 50, 0);
            c.gives(0, "place", 0, 49, 0).gives(1, "place", 0, 50, 0).gives(2, "place", 2, 49, 1).gives(1, "place", 2, 50, 1);
        });
        CASES.test("KNOWN from 0 on", c -> c.tell("names", 3).tell("ahead", 2, 0, 0).gives(3, "orders", 0).gives(3, "orders", 99));
        CASES.test("KNOWN from 99 on", c -> {
            c.tell("names", 3).tell("ahead", 2, 0, 99).gives(6, "orders", 98).gives(3, "orders", 99);
        });
        CASES.test("KNOWN twice from two numbers", c -> {
            c.tell("names", 3).tell("ahead", 2, 0, 60).tell("ahead", 2, 0, 40).gives(6, "orders", 39);
            c.gives(3, "orders", 40).gives(3, "orders", 60);
        });
        CASES.test("KNOWN in another order than told", c -> {
            c.tell("names", 3).tell("ahead", 1, 0, 60).tell("ahead", 2, 1, 40).gives(6, "orders", 39);
            c.gives(3, "orders", 40).gives(3, "orders", 59).gives(1, "orders", 60);
        });
    }

    // ---- promises 31 and 32

    private static void places() {
        Consumer<Case> one = c -> c.tell("names", 4).tell("ahead", 3, 1, 50);
        CASES.bounds(BAD, one, "place", 1, 60, 0).number(0, 0, 0, 3, 0).number(1, 0, 0, 99, 1).number(2, 0, 1, 1, 3);
        CASES.bounds(BAD, one, "place", 3, 60, 1).number(0, 0, 3, 3, 2).number(1, 0, 3, 99, 2).number(2, 0, 0, 1, 2);
        CASES.test("place: of one NAME", c -> {
            c.tell("names", 1).gives(0, "place", 0, 0, 0).gives(0, "place", 0, 99, 1).refuses(BAD, "place", 1, 0, 0);
        });
        CASES.test("place: of nine of which nothing is told", c -> {
            c.gives(0, "place", 8, 99, 0).gives(8, "place", 8, 99, 1).gives(0, "place", 0, 0, 0).gives(8, "place", 0, 0, 1);
        });
        for (int name = 0; name < 9; name++) {
            int between = name;
            CASES.test("place: by what follows from it by way of NAME " + name, c -> {
                int first = (between + 4) % 9;
                int last = (between + 7) % 9;
                c.tell("ahead", between, last, 0).tell("ahead", first, between, 0);
                c.gives(2, "place", last, 0, 0).gives(8, "place", last, 0, 1).gives(0, "place", first, 0, 0);
                c.gives(6, "place", first, 0, 1).gives(1, "place", between, 0, 0).gives(7, "place", between, 0, 1);
            });
        }
        CASES.test("place: in a row of nine", c -> {
            int[] row = {3, 7, 0, 8, 5, 1, 6, 2, 4};
            for (int i : new int[] {4, 0, 7, 2, 5, 1, 6, 3}) {
                c.tell("ahead", row[i], row[i + 1], 0);
            }
            for (int i = 0; i < 9; i++) {
                c.gives(i, "place", row[i], 0, 0).gives(i, "place", row[i], 0, 1).gives(row[i], "order", 0, i);
            }
        });
        CASES.test("place: by what follows from it", c -> {
            c.tell("names", 5).tell("ahead", 4, 2, 0).tell("ahead", 2, 0, 0).tell("ahead", 3, 0, 0);
            c.gives(3, "place", 0, 0, 0).gives(4, "place", 0, 0, 1).gives(1, "place", 2, 0, 0).gives(3, "place", 2, 0, 1);
            c.gives(0, "place", 4, 0, 0).gives(2, "place", 4, 0, 1).gives(3, "place", 3, 0, 1).gives(0, "place", 1, 0, 0);
        });
    }

    private static void rows() {
        Consumer<Case> one = c -> c.tell("names", 4).tell("ahead", 3, 0, 50);
        CASES.bounds(BAD, one, "order", 60, 0).number(0, 0, 0, 99, 1).number(1, 0, 1, 3, 0);
        CASES.bounds(BAD, one, "order", 0, 0).number(1, 0, 0, 3, 3);
        CASES.test("order: the first row, not the first that is told", c -> {
            c.tell("names", 6).tell("ahead", 5, 0, 0).tell("ahead", 4, 5, 0).tell("ahead", 5, 1, 0);
            int[] row = {2, 3, 4, 5, 0, 1};
            for (int i = 0; i < 6; i++) {
                c.gives(row[i], "order", 0, i);
            }
        });
        CASES.test("order: of nine", c -> {
            c.tell("ahead", 8, 0, 0).gives(1, "order", 0, 0).gives(7, "order", 0, 6).gives(8, "order", 0, 7);
            c.gives(0, "order", 0, 8);
        });
        CASES.test("order: of one NAME", c -> c.tell("names", 1).gives(0, "order", 99, 0).refuses(BAD, "order", 99, 1));
    }

    private static void noOrder() {
        Consumer<Case> two = c -> c.tell("names", 3).tell("ahead", 0, 1, 20).tell("ahead", 1, 0, 40);
        CASES.test("no order: two ahead of one another", c -> {
            two.accept(c);
            c.gives(3, "orders", 39).gives(0, "orders", 40).gives(0, "orders", 99);
        });
        CASES.test("no order: no place of any NAME", c -> {
            two.accept(c);
            for (int name = 0; name < 3; name++) {
                c.gives(NONE, "place", name, 40, 0).gives(NONE, "place", name, 40, 1);
            }
            c.gives(2, "place", 2, 39, 1).gives(0, "place", 2, 39, 0);
        });
        CASES.test("no order: no row", c -> {
            two.accept(c);
            for (int i = 0; i < 3; i++) {
                c.gives(NONE, "order", 40, i).gives(i, "order", 39, i);
            }
        });
        CASES.test("no order: BAD ahead of NONE", c -> {
            two.accept(c);
            c.refuses(BAD, "place", 3, 40, 0).refuses(BAD, "place", 0, 40, 2).refuses(BAD, "place", 0, 100, 0);
            c.refuses(BAD, "order", 40, 3).refuses(BAD, "order", 40, -1).refuses(BAD, "order", 100, 0);
        });
        CASES.test("no order: a circle of nine", c -> {
            for (int name = 0; name < 9; name++) {
                c.tell("ahead", name, (name + 1) % 9, name);
            }
            c.gives(1, "orders", 7).gives(0, "orders", 8).gives(NONE, "order", 8, 0).gives(NONE, "place", 4, 8, 1);
        });
        CASES.test("no order: the last three of nine", c -> {
            c.tell("ahead", 6, 7, 0).tell("ahead", 7, 8, 0).tell("ahead", 8, 6, 1).gives(60480, "orders", 0);
            c.gives(0, "orders", 1).gives(NONE, "order", 1, 0).gives(0, "order", 0, 0).gives(NONE, "place", 0, 1, 0);
        });
    }

    // ---- promise 33

    private static void letters() {
        CASES.bounds(BAD, THREE, "letter", 0, 1, 50, 60, 3)
                .number(0, 0, 0, 2, 0).number(2, 0, 0, 60, 0).number(3, 50, 0, 9999, 0).number(4, -1, 0, 7, 0);
        CASES.bounds(BAD, THREE, "letter", 1, 0, 50, 60, 3).number(1, 0, 0, 2, 0);
        CASES.bounds(BAD, THREE, "letter", 1, 0, 0, 9999, 3).number(2, 0, 0, 9999, 0).number(3, 0, 0, 9999, 0);
        CASES.bounds(BAD, THREE, "letter", 1, 0, 9999, 9999, 3).number(3, 9999, 0, 9999, 0);
        CASES.test("letter: to himself", c -> {
            c.merchants(3).refuses(BAD, "letter", 0, 0, 5, 6, 0).refuses(BAD, "letter", 2, 2, 5, 6, NONE);
        });
        CASES.test("letter: come on the day it is sent, not on the day ahead", c -> {
            c.merchants(2).refuses(BAD, "letter", 0, 1, 5, 4, 0).gives(0, "letter", 0, 1, 5, 5, 0);
        });
        CASES.test("letter: 0 .. 29 as they come, the 31st is too many", c -> {
            c.merchants(3);
            for (int i = 0; i < 30; i++) {
                c.gives(i, "letter", i % 3, (i + 1) % 3, i, i + 1, i % 9 - 1);
            }
            c.refuses(FULL, "letter", 0, 1, 0, 0, 0).gives(30, "count", 8);
        });
    }

    private static void lettersRefused() {
        CASES.test("letter: BAD ahead of FULL", c -> {
            c.merchants(2).times(30, "letter", 0, 1, 5, 6, NONE).refuses(BAD, "letter", 1, 1, 5, 6, 0);
            c.refuses(BAD, "letter", 2, 1, 5, 6, 0).refuses(BAD, "letter", 0, 2, 5, 6, 0);
            c.refuses(BAD, "letter", 0, 1, 5, 4, 0).refuses(BAD, "letter", 0, 1, 5, 10000, 0);
            c.refuses(BAD, "letter", 0, 1, -1, 4, 0).refuses(BAD, "letter", 0, 1, 5, 6, 8);
            c.refuses(BAD, "letter", 0, 1, 5, 6, -2).refuses(FULL, "letter", 0, 1, 5, 6, 0);
        });
        CASES.test("letter: the 30th carries", c -> {
            c.merchants(2).times(29, "letter", 0, 1, 5, 6, NONE).gives(0, "knows", 1, 7, 6);
            c.gives(29, "letter", 0, 1, 5, 6, 7).gives(128, "carries", 29).gives(1, "knows", 1, 7, 6);
        });
    }

    // ---- promise 34

    private static void knows() {
        Consumer<Case> outer = c -> {
            c.merchants(3).tell("letter", 0, 1, 0, 9999, 0).tell("letter", 2, 1, 9999, 9999, 7).tell("letter", 2, 0, 3, 4, 0);
        };
        CASES.bounds(BAD, outer, "knows", 0, 0, 50).number(0, 0, 1, 2, 1).number(1, 0, 1, 7, 0).number(2, 0, 1, 9999, 1);
        CASES.bounds(BAD, outer, "knows", 2, 7, 50).number(1, 0, 1, 7, 0).number(2, 0, 0, 9999, 1);
        CASES.test("knows: who told it, on the day it is sent and ahead of it", c -> {
            c.merchants(2).tell("letter", 0, 1, 50, 60, 3).gives(0, "knows", 0, 3, 49).gives(1, "knows", 0, 3, 50);
            c.gives(1, "knows", 0, 3, 51).gives(1, "knows", 0, 3, 9999);
        });
        CASES.test("knows: to whom it came, on that day and ahead of it", c -> {
            c.merchants(2).tell("letter", 0, 1, 50, 60, 3).gives(0, "knows", 1, 3, 59).gives(1, "knows", 1, 3, 60);
            c.gives(1, "knows", 1, 3, 9999);
        });
        CASES.test("knows: sent and come on day 0", c -> {
            c.merchants(2).tell("letter", 0, 1, 0, 0, 3).gives(1, "knows", 0, 3, 0).gives(1, "knows", 1, 3, 0);
        });
        CASES.test("knows: sent and come on day 9999", c -> {
            c.merchants(2).tell("letter", 0, 1, 9999, 9999, 3).gives(0, "knows", 0, 3, 9998).gives(1, "knows", 0, 3, 9999);
            c.gives(0, "knows", 1, 3, 9998).gives(1, "knows", 1, 3, 9999);
        });
        CASES.test("knows: nobody else", c -> {
            c.merchants(3).tell("letter", 0, 1, 50, 60, 3).gives(0, "knows", 2, 3, 9999);
        });
        CASES.test("knows: nobody else, whoever writes to whom", c -> {
            c.merchants(5).tell("letter", 1, 3, 50, 60, 3).tell("letter", 3, 1, 50, 60, 4);
            for (int m = 0; m < 5; m++) {
                int knows = m == 1 || m == 3 ? 1 : 0;
                c.gives(knows, "knows", m, 3, 9999).gives(knows, "knows", m, 4, 9999);
            }
        });
        CASES.test("knows: no other THING", c -> {
            c.merchants(2).tell("letter", 0, 1, 50, 60, 3).gives(0, "knows", 0, 2, 9999).gives(0, "knows", 1, 4, 9999);
        });
        CASES.test("knows: nothing was told first in it", c -> {
            c.merchants(2).tell("letter", 0, 1, 50, 60, NONE);
            for (int thing = 0; thing < 8; thing++) {
                c.gives(0, "knows", 0, thing, 9999).gives(0, "knows", 1, thing, 9999);
            }
        });
        CASES.test("knows: told first by two", c -> {
            c.merchants(3).tell("letter", 0, 1, 50, 60, 3).tell("letter", 2, 1, 20, 55, 3).gives(0, "knows", 0, 3, 49);
            c.gives(1, "knows", 2, 3, 20).gives(0, "knows", 1, 3, 54).gives(1, "knows", 1, 3, 55);
        });
    }

    private static void onTheWay() {
        CASES.test("passed on: on the day it came, not on the day ahead", c -> {
            c.merchants(3).tell("letter", 0, 1, 5, 10, 3).tell("letter", 1, 2, 9, 20, NONE).gives(0, "carries", 1);
            c.gives(0, "knows", 2, 3, 9999).tell("letter", 1, 2, 10, 30, NONE).gives(8, "carries", 2);
            c.gives(0, "knows", 2, 3, 29).gives(1, "knows", 2, 3, 30);
        });
        CASES.test("passed on: what he told first in another one of that day", c -> {
            c.merchants(3).tell("letter", 0, 1, 5, 10, 3).tell("letter", 0, 2, 5, 7, NONE).tell("letter", 0, 2, 4, 6, NONE);
            c.gives(8, "carries", 1).gives(0, "carries", 2).gives(0, "knows", 2, 3, 6).gives(1, "knows", 2, 3, 7);
        });
        CASES.test("passed on: by a letter told ahead of the one that brought it", c -> {
            c.merchants(3).tell("letter", 1, 2, 12, 20, NONE).tell("letter", 0, 1, 5, 10, 3).gives(8, "carries", 0);
            c.gives(1, "knows", 2, 3, 20).gives(0, "knows", 2, 3, 19);
        });
        CASES.test("passed on: by nine on one day, told from the last", c -> {
            c.merchants(10);
            for (int m = 9; m > 0; m--) {
                c.tell("letter", m - 1, m, 7, 7, m == 1 ? 5 : NONE);
            }
            c.gives(32, "carries", 0).gives(1, "knows", 9, 5, 7).gives(0, "knows", 9, 5, 6).gives(0, "knows", 0, 5, 6);
        });
        CASES.test("passed on: round in a circle on one day", c -> {
            c.merchants(3).tell("letter", 0, 1, 7, 7, 0).tell("letter", 1, 2, 7, 7, 1).tell("letter", 2, 0, 7, 7, 2);
            c.gives(7, "carries", 0).gives(7, "carries", 1).gives(7, "carries", 2).gives(1, "knows", 0, 1, 7);
        });
        CASES.test("passed on: a circle in which nothing was told", c -> {
            c.merchants(2).tell("letter", 0, 1, 7, 7, NONE).tell("letter", 1, 0, 7, 7, NONE).gives(0, "carries", 0);
            c.gives(0, "carries", 1).gives(0, "knows", 0, 0, 9999);
        });
        CASES.test("passed on: not by a letter that was sent and not come", c -> {
            c.merchants(3).tell("letter", 0, 1, 5, 9999, 3).tell("letter", 1, 2, 9998, 9999, NONE).gives(0, "carries", 1);
            c.tell("letter", 1, 2, 9999, 9999, NONE).gives(8, "carries", 2);
        });
    }

    // ---- promise 35

    private static void carries() {
        Consumer<Case> three = c -> {
            c.merchants(3).tell("letter", 0, 1, 5, 10, 0).tell("letter", 0, 1, 6, 10, 1).tell("letter", 1, 2, 10, 12, 2);
        };
        CASES.bounds(BAD, three, "carries", 1).number(0, 0, 1, 2, 7);
        for (int thing = 0; thing < 8; thing++) {
            int told = thing;
            CASES.test("carries: THING " + thing, c -> {
                c.merchants(2).tell("letter", 0, 1, 5, 10, told).gives(1 << told, "carries", 0);
            });
        }
        CASES.test("carries: none", c -> c.merchants(2).tell("letter", 0, 1, 5, 10, NONE).gives(0, "carries", 0));
        CASES.test("carries: all of them", c -> {
            c.merchants(2);
            for (int thing = 0; thing < 8; thing++) {
                c.tell("letter", 0, 1, thing, 10, thing);
            }
            c.gives(1, "carries", 0).gives(127, "carries", 6).gives(255, "carries", 7);
            c.tell("letter", 1, 0, 10, 11, NONE).gives(255, "carries", 8);
        });
        CASES.test("carries: the 30th is there, the next is not", c -> {
            c.merchants(2).times(29, "letter", 0, 1, 5, 10, 0).refuses(BAD, "carries", 29);
            c.tell("letter", 0, 1, 5, 10, 1).gives(3, "carries", 29).refuses(BAD, "carries", 30);
        });
    }

    // ---- promise 36

    private static void mentions() {
        CASES.bounds(BAD, NOTHING, "mention", 2, 3, 50)
                .number(0, -1, 0, 4, 0).number(1, -1, 0, 9, 0).number(2, 0, 0, 99, 0);
        CASES.test("mention: neither told", c -> c.gives(0, "mention", NONE, NONE, 0).gives(1, "mention", NONE, NONE, 99));
        CASES.test("mention: 0 .. 9 as they come, the 11th is too many", c -> {
            for (int i = 0; i < 10; i++) {
                c.gives(i, "mention", i % 6 - 1, i - 1, i * 11);
            }
            c.refuses(FULL, "mention", 0, 0, 0).refuses(FULL, "mention", NONE, NONE, 99).gives(10, "count", 9);
        });
        CASES.test("mention: BAD ahead of FULL", c -> {
            c.times(10, "mention", 1, 1, 1).refuses(BAD, "mention", 5, 1, 1).refuses(BAD, "mention", -2, 1, 1);
            c.refuses(BAD, "mention", 1, 10, 1).refuses(BAD, "mention", 1, -2, 1).refuses(BAD, "mention", 1, 1, 100);
            c.refuses(BAD, "mention", 1, 1, -1).refuses(FULL, "mention", 1, 1, 1);
        });
    }

    // ---- promise 37

    private static void men() {
        Consumer<Case> three = c -> c.tell("mention", 0, -1, 0).tell("mention", 1, -1, 0).tell("mention", 1, -1, 0);
        CASES.bounds(BAD_MEN, three, "men", 1).number(0, NONE, 2, 2, 1);
        CASES.test("men: of no MENTIONS", c -> c.gives(0, "men", NONE).refuses(BAD_MEN, "men", 0).refuses(BAD_MEN, "men", -2));
        CASES.test("men: the 10th is there, the next is not", c -> {
            c.times(9, "mention", NONE, NONE, 0).refuses(BAD_MEN, "men", 9).tell("mention", NONE, NONE, 0);
            c.gives(0, "men", 9).refuses(BAD_MEN, "men", 10).gives(1, "men", NONE);
        });
    }

    /** The sets of mentions, each told as house, seal, season. */
    private static void sets(String what, int[] row, int... told) {
        CASES.test("men: " + what, c -> {
            int many = 0;
            for (int i = 0; i < row.length; i++) {
                c.gives(i, "mention", told[3 * i], told[3 * i + 1], told[3 * i + 2]);
                many += row[i] == i ? 1 : 0;
            }
            c.gives(many, "men", NONE);
            for (int i = 0; i < row.length; i++) {
                c.gives(row[i], "men", i);
            }
        });
    }

    private static int[] row(int... row) {
        return row;
    }

    private static void oneMan() {
        sets("SEASONS 40 apart", row(0, 0), -1, -1, 10, -1, -1, 50);
        sets("SEASONS 41 apart", row(0, 1), -1, -1, 10, -1, -1, 51);
        sets("SEASONS 40 apart, the later one first", row(0, 0), -1, -1, 50, -1, -1, 10);
        sets("SEASONS 41 apart, the later one first", row(0, 1), -1, -1, 51, -1, -1, 10);
        sets("SEASONS 99 apart", row(0, 1), -1, -1, 0, -1, -1, 99);
        sets("SEASONS 40 apart from the last", row(0, 0), -1, -1, 59, -1, -1, 99);
        sets("SEASONS 41 apart from the last", row(0, 1), -1, -1, 58, -1, -1, 99);
        sets("like HOUSES", row(0, 0), 0, -1, 0, 0, -1, 0);
        sets("unlike HOUSES", row(0, 1), 0, -1, 0, 4, -1, 0);
        sets("a HOUSE not told, first", row(0, 0), -1, -1, 0, 0, -1, 0);
        sets("a HOUSE not told, second", row(0, 0), 4, -1, 0, -1, -1, 0);
        sets("like SEALS", row(0, 0), -1, 9, 0, -1, 9, 0);
        sets("unlike SEALS", row(0, 1), -1, 0, 0, -1, 9, 0);
        sets("a SEAL not told, first", row(0, 0), -1, -1, 0, -1, 0, 0);
        sets("a SEAL not told, second", row(0, 0), -1, 9, 0, -1, -1, 0);
        sets("like HOUSES, unlike SEALS", row(0, 1), 3, 0, 0, 3, 1, 0);
        sets("unlike HOUSES, like SEALS", row(0, 1), 3, 5, 0, 2, 5, 0);
        sets("HOUSE like another one's SEAL", row(0, 0), 3, -1, 0, -1, 5, 0);
        sets("like HOUSES and SEALS, 41 apart", row(0, 1), 3, 5, 0, 3, 5, 41);
        sets("one alone", row(0), 3, 5, 0);
    }

    private static void menInSets() {
        sets("each two of one set, not one by one", row(0, 0, 2), -1, -1, 0, -1, -1, 40, -1, -1, 41);
        sets("one between two that are unlike", row(0, 0, 2), 1, -1, 0, -1, -1, 0, 2, -1, 0);
        sets("the fewest, not the next that fits", row(0, 1, 0, 1), -1, -1, 30, -1, -1, 60, -1, -1, 0, -1, -1, 95);
        sets("the first row of like ones", row(0, 0, 2, 0), -1, -1, 0, 1, -1, 0, 2, -1, 0, -1, -1, 0);
        sets("one with the least that lets all be few", row(0, 1, 1, 0), -1, -1, 20, -1, -1, 45, -1, -1, 61, -1, -1, 0);
        sets("ten of one man", row(0, 0, 0, 0, 0, 0, 0, 0, 0, 0), -1, -1, 0, -1, -1, 40, -1, -1, 1, -1, -1, 39,
                -1, -1, 2, -1, -1, 38, -1, -1, 3, -1, -1, 37, 4, -1, 20, -1, 9, 20);
        sets("ten men", row(0, 1, 2, 3, 4, 5, 6, 7, 8, 9), -1, 0, 0, -1, 1, 0, -1, 2, 0, -1, 3, 0, -1, 4, 0,
                -1, 5, 0, -1, 6, 0, -1, 7, 0, -1, 8, 0, -1, 9, 0);
        sets("five HOUSES and five without", row(0, 1, 2, 3, 4, 0, 0, 0, 0, 0), 0, -1, 0, 1, -1, 0, 2, -1, 0,
                3, -1, 0, 4, -1, 0, -1, -1, 0, -1, -1, 0, -1, -1, 0, -1, -1, 0, -1, -1, 0);
    }
}
