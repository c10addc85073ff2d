/** All that can be asked of two houses that should be alike, as far as the calls reach that are left. */
final class Look {
    private static final int[] SEASONS = {0, 5, 10, 50, 99};
    private static final int[] DAYS = {0, 7, 9999};

    private final TinHouse house;
    private final TinHouse twin;
    private int calls;
    private Case told;

    Look(TinHouse house, TinHouse twin, int calls) {
        this.house = house;
        this.twin = twin;
        this.calls = calls;
    }

    void compare(Case told) {
        this.told = told;
        int merchants = (int) asks("count", 0);
        asks("digest");
        trade(merchants);
        texts();
        names();
        people(merchants);
        debts(merchants);
        images();
    }

    private long asks(String call, long... numbers) {
        // The images come last: what is asked ahead of them leaves their calls over.
        if (calls <= 8 && !call.equals("from") && !call.equals("digest") || calls <= 0) {
            return 0;
        }
        calls--;
        long got = Calls.ask(house, call, numbers);
        told.due("in the end " + Calls.written(call, numbers), got, Calls.ask(twin, call, numbers));
        return got;
    }

    private void trade(int merchants) {
        for (int s : SEASONS) {
            for (int m = 0; m < merchants && m < 2; m++) {
                asks("wide", m, 1000, s);
            }
            asks("plan", s, TinHouse.NONE);
        }
        asks("better", 0, 1000, 0);
        for (int load = 0; load < 6; load++) {
            asks("plan", 0, load);
        }
        for (int which = 0; which <= 1; which++) {
            asks("span", 1000, which);
            asks("part", 0);
            asks("part", 1);
        }
        asks("mean", 999);
        asks("part", 0);
    }

    private void texts() {
        for (int text = 0; text < 4; text++) {
            asks("fault", text);
            asks("tells", text, 1, 1, 0, 7, 40);
        }
        for (int s : SEASONS) {
            for (int sort = 0; sort < 3; sort++) {
                asks("force", sort, s);
            }
        }
    }

    private void names() {
        for (int k : SEASONS) {
            asks("orders", k);
        }
        for (int name = 0; name < 9; name++) {
            asks("order", 99, name);
            asks("place", name, 99, name % 2);
        }
    }

    private void people(int merchants) {
        int letters = (int) asks("count", 8);
        for (int letter = 0; letter < letters; letter++) {
            asks("carries", letter);
        }
        for (int m = 0; m < merchants && m < 4; m++) {
            for (int day : DAYS) {
                asks("knows", m, 0, day);
            }
        }
        int mentions = (int) asks("count", 9);
        for (int what = TinHouse.NONE; what < mentions; what++) {
            asks("men", what);
        }
    }

    private void debts(int merchants) {
        for (int purse = 0; purse < 3; purse++) {
            for (int m = 0; m < merchants; m++) {
                asks("parted", purse, 1001, m);
            }
        }
        for (int s : SEASONS) {
            asks("fewest", s);
            for (int what = TinHouse.NONE; what < 3; what++) {
                asks("ring", s, what);
            }
        }
        int debts = (int) asks("count", 2);
        for (int debt = debts - 1; debt >= 0; debt--) {
            for (int s : SEASONS) {
                asks("owed", debt, s);
            }
        }
    }

    private void images() {
        for (int i = 0; i < 2; i++) {
            asks("from", i);
            asks("digest");
        }
    }
}
