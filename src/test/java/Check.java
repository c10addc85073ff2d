/** What the tests share: answers that are due, and texts written whole. */
final class Check {
    private int wrong = 0;
    private int asked = 0;
    private final String name;

    Check(String name) {
        this.name = name;
    }

    void due(String call, long got, long want) {
        asked++;
        if (got != want) {
            wrong++;
            System.out.println(name + ": " + call + " answered " + got + ", due is " + want);
        }
    }

    /** Ends the test: with exit code 1 if an answer was not the one that is due. */
    void end() {
        System.out.println(name + ": " + asked + " asked, " + wrong + " wrong");
        if (wrong != 0 || asked == 0) {
            System.exit(1);
        }
    }

    /** Puts a text in place of what is there. */
    static void put(TinHouse x, int text, String signs) {
        x.erase(text);
        for (int i = 0; i < signs.length(); i++) {
            x.write(text, signs.charAt(i));
        }
    }

    /** An act of a text that is written for it. */
    static int enact(TinHouse x, String signs, int sort, int from) {
        put(x, 3, signs);
        return x.act(3, sort, from);
    }

    /** So many merchants, of house i modulo 5 and town i modulo 2. */
    static TinHouse withMerchants(int n) {
        TinHouse x = new TinHouse();
        for (int i = 0; i < n; i++) {
            x.merchant(i % 5, i % 2);
        }
        return x;
    }
}
