/** Promises 28 to 37: names of years, letters, mentions. */
public final class NamesTest {
    private static final Check CHECK = new Check("NamesTest");

    public static void main(String[] args) {
        names();
        ahead();
        orders();
        placesAndRows();
        noOrder();
        letters();
        knows();
        oneDay();
        lettersRefused();
        mentions();
        men();
        menOfLikeRows();
        CHECK.end();
    }

    private static void names() {
        TinHouse x = new TinHouse();
        CHECK.due("n 0", x.names(0), TinHouse.BAD);
        CHECK.due("n above", x.names(10), TinHouse.BAD);
        CHECK.due("nine at first", x.order(0, 8), 8);
        CHECK.due("told", x.ahead(1, 0, 0), 1);
        CHECK.due("three", x.names(3), 1);
        CHECK.due("nothing told of them", x.count(7), 0);
        CHECK.due("orders", x.orders(99), 6);
        CHECK.due("one", x.names(1), 1);
        CHECK.due("one order", x.orders(0), 1);
        CHECK.due("its name", x.order(0, 0), 0);
        CHECK.due("its first place", x.place(0, 0, 0), 0);
        CHECK.due("its last place", x.place(0, 0, 1), 0);
        CHECK.due("no other", x.order(0, 1), TinHouse.BAD);
    }

    private static void ahead() {
        TinHouse x = new TinHouse();
        x.names(4);
        CHECK.due("a", x.ahead(4, 0, 0), TinHouse.BAD);
        CHECK.due("a below", x.ahead(-1, 0, 0), TinHouse.BAD);
        CHECK.due("b", x.ahead(0, 4, 0), TinHouse.BAD);
        CHECK.due("b below", x.ahead(0, -1, 0), TinHouse.BAD);
        CHECK.due("alike", x.ahead(2, 2, 0), TinHouse.BAD);
        CHECK.due("known", x.ahead(0, 1, 100), TinHouse.BAD);
        CHECK.due("known below", x.ahead(0, 1, -1), TinHouse.BAD);
        for (int i = 1; i <= 40; i++) {
            CHECK.due("ahead " + i, x.ahead(i % 4, (i + 1) % 4, i == 1 ? 99 : 0), i);
        }
        CHECK.due("the 41st", x.ahead(0, 1, 0), TinHouse.FULL);
        CHECK.due("BAD ahead of FULL", x.ahead(0, 0, 0), TinHouse.BAD);
        CHECK.due("count", x.count(7), 40);
        x.names(4);
        CHECK.due("anew", x.ahead(0, 1, 0), 1);
    }

    private static void orders() {
        TinHouse x = new TinHouse();
        CHECK.due("all of nine", x.orders(99), 362880);
        x.ahead(8, 0, 50);
        CHECK.due("not known", x.orders(49), 362880);
        CHECK.due("half", x.orders(50), 181440);
        x.ahead(8, 0, 60);
        CHECK.due("told twice", x.orders(99), 181440);
        x.names(9);
        for (int i = 0; i < 8; i++) {
            x.ahead(i + 1, i, i);
        }
        CHECK.due("one row", x.orders(99), 1);
        CHECK.due("its first name", x.order(99, 0), 8);
        CHECK.due("its last name", x.order(99, 8), 0);
        CHECK.due("k", x.orders(100), TinHouse.BAD);
        CHECK.due("k below", x.orders(-1), TinHouse.BAD);
        x.names(5);
        x.ahead(0, 1, 0);
        x.ahead(2, 3, 0);
        CHECK.due("two pairs of five", x.orders(0), 30);
    }

    private static void placesAndRows() {
        TinHouse x = new TinHouse();
        x.names(6);
        x.ahead(5, 0, 0);
        x.ahead(4, 5, 10);
        x.ahead(5, 1, 20);
        int[] first = {2, 2, 0, 0, 0, 1};
        int[] last = {5, 5, 5, 5, 2, 3};
        int[] row = {2, 3, 4, 5, 0, 1};
        for (int name = 0; name < 6; name++) {
            CHECK.due("first of " + name, x.place(name, 20, 0), first[name]);
            CHECK.due("last of " + name, x.place(name, 20, 1), last[name]);
            CHECK.due("row at " + name, x.order(20, name), row[name]);
        }
        CHECK.due("by 10, first of 0", x.place(0, 10, 0), 2);
        CHECK.due("by 9, first of 0", x.place(0, 9, 0), 1);
        CHECK.due("by 19, last of 5", x.place(5, 19, 1), 4);
        CHECK.due("by 0, row at 0", x.order(0, 0), 1);
        CHECK.due("name", x.place(6, 0, 0), TinHouse.BAD);
        CHECK.due("name below", x.place(-1, 0, 0), TinHouse.BAD);
        CHECK.due("k", x.place(0, 100, 0), TinHouse.BAD);
        CHECK.due("k below", x.place(0, -1, 0), TinHouse.BAD);
        CHECK.due("which", x.place(0, 0, 2), TinHouse.BAD);
        CHECK.due("which below", x.place(0, 0, -1), TinHouse.BAD);
        CHECK.due("order: k", x.order(100, 0), TinHouse.BAD);
        CHECK.due("order: k below", x.order(-1, 0), TinHouse.BAD);
        CHECK.due("order: i", x.order(0, 6), TinHouse.BAD);
        CHECK.due("order: i below", x.order(0, -1), TinHouse.BAD);
    }

    private static void noOrder() {
        TinHouse x = new TinHouse();
        x.ahead(5, 0, 99);
        x.ahead(0, 6, 0);
        CHECK.due("by what follows from it", x.place(6, 99, 0), 2);
        CHECK.due("by what is known then", x.place(6, 98, 0), 1);
        CHECK.due("the row by 99", x.order(99, 0), 1);
        CHECK.due("the row by 98", x.order(98, 0), 0);
        x.names(9);
        x.ahead(0, 1, 0);
        x.ahead(1, 2, 5);
        x.ahead(2, 0, 7);
        CHECK.due("there is one", x.orders(6), 60480);
        CHECK.due("there is none", x.orders(7), 0);
        CHECK.due("no place", x.place(8, 7, 0), TinHouse.NONE);
        CHECK.due("no last place", x.place(0, 7, 1), TinHouse.NONE);
        CHECK.due("no row", x.order(7, 0), TinHouse.NONE);
        CHECK.due("a place by 6", x.place(2, 6, 0), 2);
        CHECK.due("BAD ahead of NONE", x.place(9, 7, 0), TinHouse.BAD);
    }

    private static void letters() {
        TinHouse x = Check.withMerchants(3);
        for (int i = 0; i < 30; i++) {
            CHECK.due("letter " + i, x.letter(i % 3, (i + 1) % 3, i, i == 0 ? 9999 : i, i % 9 - 1), i);
        }
        CHECK.due("the 31st", x.letter(0, 1, 0, 0, 0), TinHouse.FULL);
        CHECK.due("BAD ahead of FULL", x.letter(0, 0, 0, 0, 0), TinHouse.BAD);
        CHECK.due("count", x.count(8), 30);
        CHECK.due("carries what he told first", Check.withMerchants(2).letter(0, 1, 9999, 9999, 7), 0);
    }

    private static void knows() {
        TinHouse x = Check.withMerchants(4);
        x.letter(2, 3, 12, 20, -1);
        x.letter(0, 1, 5, 10, 6);
        x.letter(1, 2, 10, 12, -1);
        x.letter(1, 2, 9, 11, 0);
        CHECK.due("told first by 0", x.knows(0, 6, 5), 1);
        CHECK.due("not ahead of the day it is sent", x.knows(0, 6, 4), 0);
        CHECK.due("not come", x.knows(1, 6, 9), 0);
        CHECK.due("come", x.knows(1, 6, 10), 1);
        CHECK.due("for ever", x.knows(1, 6, 9999), 1);
        CHECK.due("passed on", x.knows(2, 6, 12), 1);
        CHECK.due("not passed on ahead of it", x.knows(2, 6, 11), 0);
        CHECK.due("passed on once more", x.knows(3, 6, 20), 1);
        CHECK.due("another thing", x.knows(3, 0, 20), 1);
        CHECK.due("never told", x.knows(3, 1, 9999), 0);
        CHECK.due("not told back", x.knows(0, 0, 9999), 0);
        CHECK.due("letter 0", x.carries(0), 65);
        CHECK.due("letter 1", x.carries(1), 64);
        CHECK.due("letter 2", x.carries(2), 65);
        CHECK.due("letter 3", x.carries(3), 1);
        x.letter(3, 0, 0, 9999, 7);
        CHECK.due("thing 7, day 0", x.knows(3, 7, 0), 1);
        CHECK.due("thing 7, day 9998", x.knows(0, 7, 9998), 0);
        CHECK.due("thing 7, day 9999", x.knows(0, 7, 9999), 1);
        CHECK.due("merchant", x.knows(4, 0, 0), TinHouse.BAD);
        CHECK.due("merchant below", x.knows(-1, 0, 0), TinHouse.BAD);
        CHECK.due("thing", x.knows(0, 8, 0), TinHouse.BAD);
        CHECK.due("thing below", x.knows(0, -1, 0), TinHouse.BAD);
        CHECK.due("day", x.knows(0, 0, 10000), TinHouse.BAD);
        CHECK.due("day below", x.knows(0, 0, -1), TinHouse.BAD);
        CHECK.due("letter", x.carries(5), TinHouse.BAD);
        CHECK.due("letter below", x.carries(-1), TinHouse.BAD);
    }

    private static void oneDay() {
        TinHouse x = Check.withMerchants(10);
        for (int i = 9; i > 0; i--) {
            x.letter(i - 1, i, 7, 7, -1);
        }
        CHECK.due("nothing told", x.carries(0), 0);
        x.letter(0, 5, 7, 30, 2);
        CHECK.due("through all on one day", x.knows(9, 2, 7), 1);
        CHECK.due("the last letter", x.carries(0), 4);
        x.letter(9, 0, 7, 7, 3);
        CHECK.due("around", x.carries(9), 12);
        CHECK.due("nobody the day ahead", x.knows(9, 3, 6), 0);
        TinHouse y = Check.withMerchants(10);
        y.image(0);
        y.letter(0, 1, 7, 7, 2);
        CHECK.due("in the letter", y.carries(0), 4);
        y.from(0);
        y.letter(0, 1, 7, 7, -1);
        CHECK.due("not in the new one", y.carries(0), 0);
        TinHouse z = Check.withMerchants(3);
        z.letter(1, 2, 5, 6, 1);
        z.letter(0, 1, 5, 5, 0);
        CHECK.due("both gain at first", z.carries(0), 3);
        z.names(9);
        z.image(1);
        z.letter(2, 0, 6, 6, 7);
        z.letter(0, 2, 6, 6, -1);
        CHECK.due("in a circle", z.carries(3), 131);
        z.from(1);
        z.letter(2, 0, 6, 6, -1);
        z.letter(0, 2, 6, 6, -1);
        CHECK.due("in a circle without it", z.carries(3), 3);
        CHECK.due("all that he tells that day", x.carries(8), 12);
    }

    private static void lettersRefused() {
        TinHouse x = Check.withMerchants(2);
        CHECK.due("from", x.letter(2, 0, 0, 0, 0), TinHouse.BAD);
        CHECK.due("from below", x.letter(-1, 0, 0, 0, 0), TinHouse.BAD);
        CHECK.due("to", x.letter(0, 2, 0, 0, 0), TinHouse.BAD);
        CHECK.due("to below", x.letter(0, -1, 0, 0, 0), TinHouse.BAD);
        CHECK.due("to himself", x.letter(1, 1, 0, 0, 0), TinHouse.BAD);
        CHECK.due("sent below", x.letter(0, 1, -1, 0, 0), TinHouse.BAD);
        CHECK.due("sent above", x.letter(0, 1, 10000, 10000, 0), TinHouse.BAD);
        CHECK.due("come above", x.letter(0, 1, 0, 10000, 0), TinHouse.BAD);
        CHECK.due("come ahead of sent", x.letter(0, 1, 5, 4, 0), TinHouse.BAD);
        CHECK.due("thing", x.letter(0, 1, 0, 0, 8), TinHouse.BAD);
        CHECK.due("thing below", x.letter(0, 1, 0, 0, -2), TinHouse.BAD);
        CHECK.due("none", x.count(8), 0);
    }

    private static void mentions() {
        TinHouse x = new TinHouse();
        CHECK.due("house", x.mention(5, 0, 0), TinHouse.BAD);
        CHECK.due("house below", x.mention(-2, 0, 0), TinHouse.BAD);
        CHECK.due("seal", x.mention(0, 10, 0), TinHouse.BAD);
        CHECK.due("seal below", x.mention(0, -2, 0), TinHouse.BAD);
        CHECK.due("season", x.mention(0, 0, 100), TinHouse.BAD);
        CHECK.due("season below", x.mention(0, 0, -1), TinHouse.BAD);
        CHECK.due("none: what", x.men(0), -10);
        for (int i = 0; i < 10; i++) {
            CHECK.due("mention " + i, x.mention(i % 6 - 1, i - 1, i * 11), i);
        }
        CHECK.due("the 11th", x.mention(0, 0, 0), TinHouse.FULL);
        CHECK.due("BAD ahead of FULL", x.mention(0, 0, 100), TinHouse.BAD);
        CHECK.due("count", x.count(9), 10);
        CHECK.due("what above", x.men(10), -10);
        CHECK.due("what below", x.men(-2), -10);
    }

    private static void rows(TinHouse x, int sets, int... row) {
        CHECK.due("men", x.men(TinHouse.NONE), sets);
        for (int i = 0; i < row.length; i++) {
            CHECK.due("man of " + i, x.men(i), row[i]);
        }
    }

    private static void men() {
        TinHouse x = new TinHouse();
        x.mention(-1, -1, 0);
        rows(x, 1, 0);
        x.mention(-1, -1, 40);
        rows(x, 1, 0, 0);
        x.mention(-1, -1, 41);
        rows(x, 2, 0, 0, 2);
        x.mention(2, -1, 41);
        x.mention(3, -1, 41);
        rows(x, 3, 0, 0, 2, 2, 4);
        x.mention(-1, 9, 10);
        rows(x, 3, 0, 0, 2, 2, 4, 0);
        x.mention(2, 8, 10);
        rows(x, 3, 0, 0, 2, 2, 4, 0, 2);
    }

    private static void menOfLikeRows() {
        TinHouse x = new TinHouse();
        x.mention(-1, -1, 50);
        x.mention(1, -1, 50);
        x.mention(-1, 1, 50);
        x.mention(2, -1, 50);
        x.mention(1, 2, 50);
        rows(x, 2, 0, 0, 2, 2, 0);
        TinHouse y = new TinHouse();
        for (int i = 0; i < 10; i++) {
            y.mention(-1, i, 0);
        }
        rows(y, 10, 0, 1, 2, 3, 4, 5, 6, 7, 8, 9);
        TinHouse z = new TinHouse();
        for (int i = 0; i < 10; i++) {
            z.mention(i % 2, i % 2 == 0 ? -1 : 4, 60 - i);
        }
        rows(z, 2, 0, 1, 0, 1, 0, 1, 0, 1, 0, 1);
    }
}
