import java.util.function.Consumer;

/** Promises 43 to 46, every boundary that the document names: images, counts, the digest. */
public final class ImagesEdgesTest {
    private static final int NONE = TinHouse.NONE, BAD = TinHouse.BAD, NO = TinHouse.NO;
    private static final Consumer<Case> NOTHING = c -> { };
    private static final Cases CASES = new Cases("ImagesEdgesTest");

    public static void main(String[] args) {
        images();
        imagesKept();
        kept();
        notKept();
        nothingIsLeft();
        counts();
        digestOfEach();
        digestOfAll();
        CASES.end();
    }

    /** Something of all that a house holds. */
    private static void fill(Case c) {
        c.merchants(3).text(0, "w+1").text(2, "7").tell("act", 2, 1, 4).tell("act", 0, 0, 9);
        c.tell("debt", 0, 1, 1000, 2, 98).tell("debt", 2, 0, 50, 1, 1).tell("seal", 0, 700).tell("seal", 1, 60);
        c.tell("breaks", 1, 8).tell("pay", 0, 3, 11).tell("purse", 1, 30, 12).tell("share", 0, 2, 5);
        c.tell("gate", 1).tell("gate", 0).tell("narrow", 20).tell("stone", 10, 11, 2).tell("names", 5);
        c.tell("ahead", 3, 1, 40).tell("letter", 0, 2, 100, 200, -1).tell("letter", 1, 2, 100, 150, 6);
        c.tell("mention", -1, 4, 9).tell("load", 1, 500, 30).tell("price", 1, 77).tell("mean", 30);
    }

    // ---- promises 43 and 44

    private static void images() {
        CASES.bounds(BAD, NOTHING, "image", 0).number(0, 0, 1, 1, 1);
        CASES.bounds(BAD, c -> c.tell("image", 0).tell("image", 1), "from", 0).number(0, 0, 1, 1, 1);
        CASES.test("from: NO: none was kept", c -> c.refuses(NO, "from", 0).refuses(NO, "from", 1));
        CASES.test("from: NO: the other one was kept", c -> {
            c.gives(1, "image", 1).refuses(NO, "from", 0).gives(1, "from", 1).gives(1, "image", 0).gives(1, "from", 0);
        });
        CASES.test("from: a refused one leaves the house", c -> {
            fill(c);
            c.refuses(NO, "from", 0).refuses(NO, "from", 1).refuses(BAD, "from", 2).gives(3, "count", 0);
            c.gives(1, "image", 0).refuses(NO, "from", 1).refuses(BAD, "from", -1).gives(3, "count", 0);
        });
        CASES.test("from: BAD where none was kept", c -> c.refuses(BAD, "from", -1).refuses(BAD, "from", 2));
        CASES.test("image: a refused one keeps none", c -> {
            c.refuses(BAD, "image", 2).refuses(BAD, "image", -1).refuses(NO, "from", 0).refuses(NO, "from", 1);
        });
        CASES.test("image: of a new house", c -> {
            c.gives(1, "image", 0);
            fill(c);
            c.gives(1, "from", 0);
            for (int what = 0; what <= 10; what++) {
                c.gives(0, "count", what);
            }
            c.gives(10, "narrow", 10).gives(362880, "orders", 99).gives(0, "erase", 0).gives(0, "price", 1, 0);
        });
        CASES.test("from: again and again", c -> {
            c.tell("merchant", 1, 1).gives(1, "image", 0).tell("merchant", 2, 0).gives(1, "from", 0).gives(1, "count", 0);
            c.tell("merchant", 3, 0).tell("merchant", 3, 0).gives(1, "from", 0).gives(1, "count", 0);
        });
    }

    private static void imagesKept() {
        CASES.test("image: over the one that was kept", c -> {
            c.tell("merchant", 1, 1).gives(1, "image", 0).tell("merchant", 1, 1).gives(1, "image", 0);
            c.tell("merchant", 1, 1).gives(1, "from", 0).gives(2, "count", 0);
        });
        CASES.test("image: over a fuller one", c -> {
            c.gives(1, "image", 1);
            fill(c);
            c.gives(1, "image", 0).gives(1, "from", 1).gives(1, "image", 0).tell("merchant", 4, 1);
            c.gives(1, "from", 0).gives(0, "count", 0).gives(0, "count", 3).gives(0, "erase", 0);
        });
        CASES.test("image: each by itself", c -> {
            c.gives(1, "image", 0).tell("merchant", 1, 1).gives(1, "image", 1).tell("merchant", 1, 1);
            c.gives(1, "from", 0).gives(0, "count", 0).gives(1, "from", 1).gives(1, "count", 0);
        });
        CASES.test("image: not within another one", c -> {
            c.gives(1, "image", 0).tell("gate", 1).gives(1, "image", 1).gives(1, "from", 0).gives(0, "count", 5);
            c.gives(1, "from", 1).gives(1, "count", 5).gives(1, "from", 0).gives(0, "count", 5);
        });
        CASES.test("image: it stays while the house goes on", c -> {
            c.merchants(2).tell("debt", 0, 1, 5, 0, 99).tell("seal", 0, 3).gives(1, "image", 1).tell("breaks", 0, 0);
            c.tell("pay", 0, 0, 1).gives(4, "owed", 0, 0).gives(1, "from", 1).gives(3, "owed", 0, 0);
            c.tell("pay", 0, 0, 2).gives(1, "from", 1).gives(3, "owed", 0, 0);
        });
        CASES.test("image: THE FRACTION is not kept", c -> {
            c.tell("mean", 3).gives(1, "image", 0).tell("mean", 5).gives(1, "from", 0).gives(9, "part", 0);
            c.gives(2, "part", 1);
        });
        CASES.test("image: THE FRACTION stays as it is", c -> {
            c.tell("mean", 3).gives(1, "image", 0).gives(27, "part", 0).gives(10, "part", 1);
        });
        CASES.test("image: full, then as it was", c -> {
            c.gives(1, "image", 0).merchants(10).gives(1, "from", 0).gives(0, "merchant", 4, 1).gives(1, "count", 0);
        });
    }

    /** What is told behind an image is gone when the house goes on from it. */
    private static void kept(String what, Consumer<Case> told, Consumer<Case> asWas) {
        CASES.test("an IMAGE keeps " + what, c -> {
            fill(c);
            c.tell("image", 0);
            told.accept(c);
            c.gives(1, "from", 0);
            asWas.accept(c);
            // What the house does behind going on from it leaves the image.
            c.gives(1, "from", 0);
            told.accept(c);
            c.gives(1, "from", 0);
            asWas.accept(c);
        });
        CASES.test("an IMAGE keeps " + what + " beside another one", c -> {
            fill(c);
            c.tell("image", 1);
            told.accept(c);
            c.gives(1, "image", 0).gives(1, "from", 1);
            asWas.accept(c);
        });
    }

    private static void kept() {
        kept("MERCHANTS", c -> c.tell("merchant", 4, 1), c -> c.gives(3, "count", 0));
        kept("ACTS", c -> c.tell("act", 0, 0, 3), c -> c.gives(2, "count", 1).gives(NONE, "force", 0, 8));
        kept("ACTS as told", c -> c.gives(0, "wide", 0, 1000, 9), c -> c.gives(0, "wide", 0, 1000, 9));
        kept("DEBTS", c -> c.tell("debt", 1, 2, 9, 9, 9), c -> c.gives(2, "count", 2));
        kept("PAYMENTS", c -> c.tell("pay", 0, 3, 6), c -> c.gives(1, "count", 3).gives(689, "owed", 0, 3));
        kept("ENVELOPES", c -> c.tell("debt", 0, 1, 7, 0, 0).tell("seal", 2, 1), c -> c.gives(2, "count", 2));
        kept("that one is not broken", c -> c.tell("breaks", 0, 3), c -> c.gives(689, "owed", 0, 3).gives(1, "breaks", 0, 4));
        kept("PURSES", c -> c.tell("purse", 0, 9, 9), c -> c.gives(1, "count", 4));
        kept("shares", c -> c.tell("share", 0, 2, 6), c -> c.gives(60, "leave", 0, 2, 0));
        kept("shares of who leaves", c -> c.tell("leave", 0, 2, 6), c -> c.gives(60, "leave", 0, 2, 6));
        kept("GATES", c -> c.tell("gate", 1), c -> c.gives(2, "count", 5).gives(3, "gate", 0));
        kept("n of THE NARROW WAY", c -> c.tell("narrow", 30), c -> c.gives(20, "narrow", 5));
        kept("STONES", c -> c.tell("stone", 1, 1, 0), c -> c.gives(1, "count", 6));
        kept("NAMES", c -> c.tell("names", 9), c -> c.gives(4, "order", 0, 4).refuses(BAD, "order", 0, 5));
        kept("what is told of NAMES", c -> c.tell("names", 5), c -> c.gives(1, "count", 7).gives(60, "orders", 40));
        kept("what is told of NAMES, told on", c -> c.tell("ahead", 0, 4, 0), c -> c.gives(120, "orders", 0));
        kept("LETTERS", c -> c.tell("letter", 2, 1, 1, 1, 1), c -> c.gives(2, "count", 8).gives(64, "carries", 1));
        kept("MENTIONS", c -> c.tell("mention", 1, 1, 1), c -> c.gives(1, "count", 9).gives(1, "men", NONE));
        kept("LOADS", c -> c.tell("unload"), c -> c.gives(1, "count", 10).gives(1, "unload"));
        kept("LOADS, told on", c -> c.tell("load", 0, 1, 1), c -> c.gives(1, "count", 10));
        kept("prices", c -> c.tell("price", 0, 1).tell("price", 1, 2).tell("price", 2, 3),
                c -> c.gives(0, "price", 0, 0).gives(77, "price", 1, 77).gives(0, "price", 2, 0));
        kept("TEXTS", c -> c.text(0, "g").text(1, "123").text(3, "1)"),
                c -> c.gives(8, "tells", 0, 0, 0, 0, 0, 7).gives(1, "fault", 1).gives(0, "erase", 3));
        kept("TEXTS, written on", c -> c.tell("write", 2, '('), c -> c.gives(7, "tells", 2, 0, 0, 0, 0, 0));
        kept("TEXTS, erased", c -> c.tell("erase", 0), c -> c.gives(3, "erase", 0));
    }

    private static void notKept() {
        CASES.test("an IMAGE keeps no IMAGE", c -> {
            c.gives(1, "image", 0).tell("gate", 0).gives(1, "image", 1).gives(1, "from", 0).gives(0, "count", 5);
            c.tell("gate", 0).tell("gate", 0).gives(1, "image", 0).gives(1, "from", 1).gives(1, "count", 5);
            c.gives(1, "from", 0).gives(2, "count", 5);
        });
        CASES.test("the house goes on from an IMAGE as from any", c -> {
            fill(c);
            c.tell("image", 0).tell("merchant", 0, 0).tell("from", 0).gives(3, "merchant", 2, 1);
            c.gives(2, "debt", 3, 0, 5, 0, 99).gives(5, "owed", 2, 0).gives(2, "pay", 2, 0, 1).gives(4, "owed", 2, 0);
        });
    }

    /** What comes behind going on from an IMAGE is as if nothing had been there since it was kept. */
    private static void nothingIsLeft() {
        CASES.test("from: nobody has shares in a new PURSE", c -> {
            c.merchants(10).tell("image", 0).tell("purse", 0, 9, 1);
            for (int m = 0; m < 10; m++) {
                c.tell("share", 0, m, 3);
            }
            c.gives(1, "from", 0).gives(0, "purse", 1, 8, 1);
            for (int m = 0; m < 10; m++) {
                c.refuses(NO, "leave", 0, m, 0);
            }
            c.gives(30, "share", 0, 9, 30).gives(0, "parted", 0, 100, 0).gives(67, "parted", 0, 100, 9);
        });
        CASES.test("from: a new DEBT lies in no ENVELOPE", c -> {
            c.merchants(2).tell("image", 0).tell("debt", 0, 1, 9, 0, 0).tell("seal", 0, 5).tell("breaks", 0, 50);
            c.tell("pay", 0, 0, 3).gives(1, "from", 0).gives(0, "debt", 1, 0, 8, 0, 0).gives(8, "owed", 0, 0);
            c.refuses(NO, "breaks", 0, 5).gives(1, "seal", 0, 6).gives(6, "owed", 0, 60);
        });
        CASES.test("from: a new ACT is of its own text", c -> {
            c.merchants(1).tell("gate", 0).text(0, "1+1+1+1+1").text(1, "7").tell("image", 0).tell("act", 0, 0, 0);
            c.gives(950, "wide", 0, 1000, 0).gives(1, "from", 0).gives(950, "wide", 0, 1000, 0);
            c.gives(0, "act", 1, 0, 0).gives(930, "wide", 0, 1000, 0);
        });
        CASES.test("from: LETTERS in a circle carry nothing of what is gone", c -> {
            c.merchants(2).tell("image", 0).tell("letter", 0, 1, 7, 7, 3).tell("letter", 1, 0, 7, 7, NONE);
            c.gives(8, "carries", 1).gives(1, "from", 0).tell("letter", 0, 1, 7, 7, NONE);
            c.tell("letter", 1, 0, 7, 7, NONE).gives(0, "carries", 0).gives(0, "carries", 1).gives(0, "knows", 0, 3, 9999);
        });
        CASES.test("from: MENTIONS are compared anew", c -> {
            c.tell("image", 0).tell("mention", 0, -1, 0).tell("mention", 0, -1, 0).gives(1, "men", NONE);
            c.gives(1, "from", 0).tell("mention", 1, -1, 0).tell("mention", 2, -1, 0).gives(2, "men", NONE);
            c.gives(1, "men", 1);
        });
        CASES.test("from: MENTIONS are put into sets anew", c -> {
            c.tell("image", 0).times(3, "mention", -1, -1, 0).gives(1, "men", NONE).gives(1, "from", 0);
            c.tell("mention", -1, -1, 0).tell("mention", -1, -1, 40).tell("mention", -1, -1, 80).gives(2, "men", NONE);
            c.gives(0, "men", 1).gives(2, "men", 2).gives(2, "men", NONE).gives(0, "men", 1);
        });
        CASES.test("from: MENTIONS are put into sets as if none had been", c -> {
            c.tell("image", 0).times(3, "mention", -1, -1, 0).gives(1, "men", NONE).gives(1, "from", 0);
            c.tell("mention", 0, -1, 0).tell("mention", 0, -1, 0).tell("mention", 1, -1, 0).gives(2, "men", NONE);
            c.gives(0, "men", 1).gives(2, "men", 2);
        });
        CASES.test("from: orders by what is told anew", c -> {
            c.tell("image", 0).tell("ahead", 8, 0, 0).gives(181440, "orders", 0).gives(1, "from", 0);
            c.gives(362880, "orders", 0).gives(1, "ahead", 0, 8, 0).gives(0, "order", 0, 0).gives(0, "place", 0, 0, 0);
        });
        CASES.test("from: the plan of new LOADS", c -> {
            c.merchants(1).tell("price", 0, 100).tell("price", 1, 100).tell("price", 2, 100).tell("image", 0);
            c.times(6, "load", 0, 1000, 2000).gives(0, "plan", 0, NONE).gives(2, "plan", 0, 5).gives(1, "from", 0);
            c.tell("load", 0, 10, 0).gives(10, "plan", 0, NONE).gives(0, "plan", 0, 0);
        });
    }

    // ---- promise 45

    private static void counts() {
        int[] due = {3, 2, 2, 1, 1, 2, 1, 1, 2, 1, 1};
        CASES.bounds(BAD, ImagesEdgesTest::fill, "count", 0).number(0, 0, 3, 10, 1);
        for (int what = 0; what < due.length; what++) {
            int asked = what;
            CASES.test("count(" + what + ")", c -> {
                fill(c);
                c.gives(due[asked], "count", asked);
            });
        }
        CASES.test("count: BAD in a new house", c -> c.refuses(BAD, "count", 11).refuses(BAD, "count", -1));
    }

    // ---- promise 46

    /** A house told so, and the digest by the row that the document writes. */
    private static void digest(String what, Consumer<Case> told, int... row) {
        CASES.test("digest: " + what, c -> {
            told.accept(c);
            long h = 379;
            for (int v : row) {
                h = 31 * h + v;
            }
            c.gives(h, "digest");
        });
    }

    private static void digestOfEach() {
        digest("MERCHANTS", c -> c.tell("merchant", 4, 1).tell("merchant", 2, 0),
                2, 0, 0, 0, 0, 0, 0, 0, 0, 0, 0, 4, 1, 2, 0, 10, 9, 0, 0, 0, 0, 0, 0, 0, 0, 0, 0, 1);
        digest("ACTS", c -> c.text(1, "s*5").tell("act", 1, 2, 99).tell("erase", 1).text(1, "7").tell("act", 1, 0, 0),
                0, 2, 0, 0, 0, 0, 0, 0, 0, 0, 0, 2, 99, 3, 's', '*', '5', 0, 0, 1, '7',
                10, 9, 0, 0, 0, 0, 1, '7', 0, 0, 0, 1);
        digest("DEBTS, whose balance is of SEASON 99", c -> {
            c.tell("merchant", 0, 0).tell("merchant", 0, 0).tell("debt", 1, 0, 1000, 98, 98);
        }, 2, 0, 1, 0, 0, 0, 0, 0, 0, 0, 0, 0, 0, 0, 0, 1, 0, 1000, 98, 98, -1, -1,
                10, 9, 0, 0, 0, 0, 0, 0, 0, -1030, 1030, 0, 1);
        digest("ENVELOPES", c -> {
            c.tell("merchant", 0, 0).tell("merchant", 0, 0).tell("debt", 1, 0, 1000, 98, 99).tell("seal", 0, 70);
            c.tell("debt", 0, 1, 50, 99, 99).tell("seal", 1, 60).tell("breaks", 1, 0);
        }, 2, 0, 2, 0, 0, 0, 0, 0, 0, 0, 0, 0, 0, 0, 0, 1, 0, 1000, 98, 99, 70, -1, 0, 1, 50, 99, 99, 60, 0,
                10, 9, 0, 0, 0, 0, 0, 0, 0, -20, 20, 0, 1);
        digest("PAYMENTS", c -> {
            c.tell("merchant", 0, 0).tell("merchant", 0, 0).tell("debt", 1, 0, 10, 98, 99).tell("pay", 0, 99, 12);
        }, 2, 0, 1, 1, 0, 0, 0, 0, 0, 0, 0, 0, 0, 0, 0, 1, 0, 10, 98, 99, -1, -1, 0, 99, 12,
                10, 9, 0, 0, 0, 0, 0, 0, 0, 0, 0, 0, 1);
        digest("PURSES, shares of MERCHANTS there are", c -> {
            c.tell("merchant", 0, 0).tell("merchant", 1, 0).tell("purse", 1, 50, 7).tell("share", 0, 1, 9);
            c.tell("purse", 0, 99, 10000).tell("merchant", 0, 0);
        }, 3, 0, 0, 0, 2, 0, 0, 0, 0, 0, 0, 0, 0, 1, 0, 0, 0, 1, 50, 7, 0, 9, 0, 0, 99, 10000, 0, 0, 0,
                10, 9, 0, 0, 0, 0, 0, 0, 0, 0, 0, 0, 0, 1);
        digest("GATES and n of THE NARROW WAY", c -> c.tell("gate", 1).tell("gate", 0).tell("gate", 1).tell("narrow", 99),
                0, 0, 0, 0, 0, 3, 0, 0, 0, 0, 0, 1, 0, 1, 99, 9, 0, 0, 0, 0, 0, 0, 0, 0, 1);
        digest("STONES", c -> c.tell("stone", 3, 5, 4).tell("stone", 10000, 1, 0),
                0, 0, 0, 0, 0, 0, 2, 0, 0, 0, 0, 10, 3, 5, 4, 10000, 1, 0, 9, 0, 0, 0, 0, 0, 0, 0, 0, 1);
        digest("NAMES", c -> c.tell("names", 3).tell("ahead", 2, 0, 99).tell("ahead", 0, 2, 0),
                0, 0, 0, 0, 0, 0, 0, 2, 0, 0, 0, 10, 3, 2, 0, 99, 0, 2, 0, 0, 0, 0, 0, 0, 0, 0, 0, 1);
        digest("MENTIONS", c -> c.tell("mention", -1, -1, 99).tell("mention", 4, 9, 0),
                0, 0, 0, 0, 0, 0, 0, 0, 0, 2, 0, 10, 9, -1, -1, 99, 4, 9, 0, 0, 0, 0, 0, 0, 0, 0, 0, 1);
        digest("prices", c -> c.tell("price", 0, 1000).tell("price", 2, 7),
                0, 0, 0, 0, 0, 0, 0, 0, 0, 0, 0, 10, 9, 1000, 0, 7, 0, 0, 0, 0, 0, 1);
        digest("TEXTS", c -> c.text(0, "1").text(3, "((").tell("write", 2, 0).tell("write", 2, 127),
                0, 0, 0, 0, 0, 0, 0, 0, 0, 0, 0, 10, 9, 0, 0, 0, 1, '1', 0, 2, 0, 127, 2, '(', '(', 0, 1);
        digest("THE FRACTION", c -> c.tell("mean", 15),
                0, 0, 0, 0, 0, 0, 0, 0, 0, 0, 0, 10, 9, 0, 0, 0, 0, 0, 0, 0, 27, 2);
        digest("LETTERS and LOADS", c -> {
            c.tell("merchant", 0, 0).tell("merchant", 1, 1).tell("letter", 1, 0, 7, 9999, -1).tell("letter", 0, 1, 0, 0, 7);
            c.tell("load", 1, 1000000, 0).tell("load", 0, 1, 1000000);
        }, 2, 0, 0, 0, 0, 0, 0, 0, 2, 0, 2, 0, 0, 1, 1, 10, 9, 1, 0, 7, 9999, -1, 0, 1, 0, 0, 7,
                1, 1000000, 0, 0, 1, 1000000, 0, 0, 0, 0, 0, 0, 0, 0, 0, 0, 1);
    }

    private static void digestOfAll() {
        digest("of a new house", NOTHING, 0, 0, 0, 0, 0, 0, 0, 0, 0, 0, 0, 10, 9, 0, 0, 0, 0, 0, 0, 0, 0, 1);
        CASES.test("digest: asking changes nothing", c -> {
            fill(c);
            long was = c.plainDigest();
            c.gives(was, "digest").tell("plan", 0, NONE).tell("better", 0, 10, 9).tell("owed", 0, 50).tell("orders", 50);
            c.tell("men", 0).tell("carries", 1).tell("knows", 0, 0, 0).tell("ring", 5, NONE).tell("fewest", 5);
            c.tell("place", 0, 0, 0).tell("order", 0, 0).tell("fault", 0).tell("tells", 0, 0, 0, 0, 0, 7);
            c.tell("force", 0, 9).tell("parted", 0, 100, 1).tell("wide", 0, 10, 9).tell("balance", 0, 5).tell("part", 0);
            c.tell("count", 0).gives(was, "digest");
        });
        CASES.test("digest: keeping an image changes nothing", c -> {
            fill(c);
            long was = c.plainDigest();
            c.gives(1, "image", 0).gives(1, "image", 1).gives(was, "digest").gives(1, "from", 0).gives(was, "digest");
        });
        CASES.test("digest: it wraps", c -> {
            c.merchants(10).times(50, "write", 0, 127);
            c.gives(c.plainDigest(), "digest");
        });
    }
}
