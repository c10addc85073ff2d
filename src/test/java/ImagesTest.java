/** Promises 43 to 46: images, counts, the digest. */
public final class ImagesTest {
    private static final Check CHECK = new Check("ImagesTest");

    public static void main(String[] args) {
        images();
        imagesOfAll();
        imagesRefused();
        counts();
        digestOfNew();
        digestOfAll();
        digestOfLongAct();
        digestTellsApart();
        CHECK.end();
    }

    private static TinHouse full() {
        TinHouse x = Check.withMerchants(3);
        Check.put(x, 0, "w+1");
        Check.put(x, 2, "7");
        x.act(2, 1, 4);
        x.act(0, 0, 9);
        x.debt(0, 1, 1000, 2, 98);
        x.debt(2, 0, 50, 1, 1);
        x.seal(0, 700);
        x.seal(1, 60);
        x.breaks(1, 8);
        x.pay(0, 3, 11);
        x.purse(1, 30, 12);
        x.share(0, 2, 5);
        x.gate(1);
        x.gate(0);
        x.narrow(20);
        x.stone(10, 11, 2);
        x.names(5);
        x.ahead(3, 1, 40);
        x.letter(0, 2, 100, 200, -1);
        x.letter(1, 2, 100, 150, 6);
        x.mention(-1, 4, 9);
        x.load(1, 500, 30);
        x.price(1, 77);
        x.mean(30);
        return x;
    }

    private static void images() {
        TinHouse x = full();
        CHECK.due("none kept", x.from(0), TinHouse.NO);
        CHECK.due("image 0", x.image(0), 1);
        long was = x.digest();
        x.merchant(4, 1);
        CHECK.due("image 1", x.image(1), 1);
        long then = x.digest();
        CHECK.due("from 0", x.from(0), 1);
        CHECK.due("as it was", x.digest(), was);
        CHECK.due("from 1", x.from(1), 1);
        CHECK.due("as it was then", x.digest(), then);
        CHECK.due("image over image", x.image(0), 1);
        CHECK.due("from 0 anew", x.from(0), 1);
        CHECK.due("as it was kept anew", x.digest(), then);
        x.debt(0, 3, 5, 0, 0);
        CHECK.due("again", x.from(0), 1);
        CHECK.due("an image stays as it was", x.digest(), then);
    }

    private static void imagesOfAll() {
        TinHouse x = full();
        long above = x.part(0);
        long was = x.digest();
        x.image(1);
        x.merchant(1, 1);
        Check.put(x, 0, "g");
        Check.put(x, 1, "123");
        x.act(0, 0, 3);
        x.debt(1, 2, 9, 9, 9);
        x.pay(1, 5, 6);
        x.breaks(0, 50);
        x.purse(0, 9, 9);
        x.share(0, 1, 1);
        x.gate(1);
        x.narrow(30);
        x.stone(1, 1, 0);
        x.names(9);
        x.ahead(8, 7, 6);
        x.letter(2, 1, 1, 1, 1);
        x.mention(1, 1, 1);
        x.unload();
        x.price(0, 1);
        x.price(1, 1);
        CHECK.due("from", x.from(1), 1);
        CHECK.due("all as it was", x.digest(), was);
        CHECK.due("the codes of acts too", x.wide(0, 1000, 9), 0);
        x.mean(7);
        long fraction = x.part(0);
        x.from(1);
        CHECK.due("but not the fraction", x.part(0), fraction);
        CHECK.due("another one", above == fraction ? 1 : 0, 0);
        x.image(0);
        x.merchant(0, 0);
        x.from(1);
        CHECK.due("images are not in images", x.from(0), 1);
    }

    private static void imagesRefused() {
        TinHouse x = new TinHouse();
        CHECK.due("image below", x.image(-1), TinHouse.BAD);
        CHECK.due("image above", x.image(2), TinHouse.BAD);
        CHECK.due("from below", x.from(-1), TinHouse.BAD);
        CHECK.due("from above", x.from(2), TinHouse.BAD);
        CHECK.due("image 1", x.image(1), 1);
        CHECK.due("image 0 was not kept", x.from(0), TinHouse.NO);
        CHECK.due("image 1 was", x.from(1), 1);
    }

    private static void counts() {
        TinHouse x = full();
        int[] due = {3, 2, 2, 1, 1, 2, 1, 1, 2, 1, 1};
        for (int what = 0; what < due.length; what++) {
            CHECK.due("count " + what, x.count(what), due[what]);
        }
        CHECK.due("count 11", x.count(11), TinHouse.BAD);
        CHECK.due("count -1", x.count(-1), TinHouse.BAD);
    }

    private static void mixed(String call, TinHouse x, int... row) {
        long h = 379;
        for (int v : row) {
            h = 31 * h + v;
        }
        CHECK.due(call, x.digest(), h);
    }

    private static void digestOfNew() {
        mixed("digest of new", new TinHouse(),
                0, 0, 0, 0, 0, 0, 0, 0, 0, 0, 0, 10, 9, 0, 0, 0, 0, 0, 0, 0, 0, 1);
    }

    private static void digestOfAll() {
        int inFirst = (int) full().balance(0, 99);
        int inSecond = (int) full().balance(1, 99);
        int inThird = (int) full().balance(2, 99);
        CHECK.due("balances sum to 0", inFirst + inSecond + inThird, 0);
        mixed("digest of all", full(),
                3, 2, 2, 1, 1, 2, 1, 1, 2, 1, 1,
                0, 0, 1, 1, 2, 0,
                1, 4, 1, '7', 0, 9, 3, 'w', '+', '1',
                0, 1, 1000, 2, 98, 700, -1, 2, 0, 50, 1, 1, 60, 8,
                0, 3, 11,
                1, 30, 12, 0, 0, 5,
                1, 0,
                20,
                10, 11, 2,
                5, 3, 1, 40,
                0, 2, 100, 200, -1, 1, 2, 100, 150, 6,
                -1, 4, 9,
                1, 500, 30,
                0, 77, 0,
                3, 'w', '+', '1', 0, 1, '7', 0,
                inFirst, inSecond, inThird,
                57, 2);
    }

    private static void digestOfLongAct() {
        TinHouse x = new TinHouse();
        String text = "-------------------------------------------------7";
        Check.put(x, 1, text);
        x.act(1, 2, 98);
        long h = 379;
        int[] ahead = {0, 1, 0, 0, 0, 0, 0, 0, 0, 0, 0, 2, 98, 50};
        for (int v : ahead) {
            h = 31 * h + v;
        }
        for (char sign : text.toCharArray()) {
            h = 31 * h + sign;
        }
        int[] behind = {10, 9, 0, 0, 0, 0, 50};
        for (int v : behind) {
            h = 31 * h + v;
        }
        for (char sign : text.toCharArray()) {
            h = 31 * h + sign;
        }
        h = 31 * (31 * (31 * (31 * h))) + 1;
        CHECK.due("digest of a long act", x.digest(), h);
    }

    private static void digestTellsApart() {
        TinHouse x = full();
        long was = x.digest();
        CHECK.due("asking changes nothing", x.digest(), was);
        x.plan(0, -1);
        x.better(0, 10, 9);
        x.owed(0, 50);
        x.orders(50);
        x.men(0);
        x.carries(1);
        x.write(9, 9);
        x.seal(0, 9);
        CHECK.due("nor does what is refused", x.digest(), was);
        x.mean(31);
        CHECK.due("the fraction does", x.digest() == was ? 1 : 0, 0);
    }
}
