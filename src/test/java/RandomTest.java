/**
 * Runs of 512 calls with numbers drawn by a fixed rule, asked of TinHouse and of Plain: all answers must
 * be alike, and the digest now and then. What the machine throws in TinHouse ends the test.
 */
public final class RandomTest {
    private static final int CALLS = 512;
    private static final int RUNS = 400;
    private static final String[] PIECES = {
        "g", "k", "t", "s", "w", "0", "1", "7", "30", "100", "500", "1000", "123456", "1234567", "(", ")",
        "!", "-", "?", ":", "|", "&", "<", ">", "=", "+", "*", "/", " ", "x", "~", "((((((((("};
    private static final Check CHECK = new Check("RandomTest");

    private long drawn;
    private int number;
    private int merchants;

    public static void main(String[] args) {
        for (int run = 1; run <= RUNS; run++) {
            new RandomTest().play(run);
        }
        CHECK.end();
    }

    private int draw(int below) {
        drawn = drawn * 6364136223846793005L + 1442695040888963407L;
        return (int) ((drawn >>> 33) % below);
    }

    /** Mostly from least to most, now and then one too far or far away. */
    private int from(int least, int most) {
        int kind = draw(60);
        if (kind == 0) {
            return least - 1;
        }
        if (kind == 1) {
            return most + 1;
        }
        if (kind == 2) {
            int[] far = {Integer.MIN_VALUE, Integer.MAX_VALUE, -5, 1 << 20, 32, 64};
            return far[draw(far.length)];
        }
        return kind < 10 ? (kind % 2 == 0 ? least : most) : least + draw(most - least + 1);
    }

    private int merchant() {
        return from(0, Math.max(0, merchants - 1));
    }

    private int season() {
        return draw(3) == 0 ? from(0, 99) : from(0, 12);
    }

    /** Sums mostly small, so that balances meet. */
    private int sum() {
        return draw(3) == 0 ? from(1, 1000000) : from(1, 8) * (draw(2) == 0 ? 1 : 100);
    }

    private String unit(int depth) {
        int kind = draw(12);
        if (depth > 0 && kind == 0) {
            return "(" + value(depth - 1) + ")";
        }
        if (depth > 0 && kind == 1) {
            return (draw(2) == 0 ? "-" : "!") + unit(depth - 1);
        }
        return kind < 7 ? "gktsw".substring(kind % 5, kind % 5 + 1) : Integer.toString(draw(draw(2) == 0 ? 9 : 1500));
    }

    private String value(int depth) {
        StringBuilder text = new StringBuilder(unit(depth));
        for (int i = draw(4); i > 0; i--) {
            text.append(draw(9) == 0 ? " " : "").append("|&<>=+-*/+-*".charAt(draw(12))).append(unit(depth));
        }
        if (depth > 0 && draw(4) == 0) {
            text.append('?').append(value(depth - 1)).append(':').append(value(depth - 1));
        }
        return text.toString();
    }

    private String text() {
        if (draw(5) > 0) {
            return value(3);
        }
        StringBuilder text = new StringBuilder();
        for (int i = draw(14); i >= 0; i--) {
            text.append(PIECES[draw(PIECES.length)]);
        }
        return text.toString();
    }

    private void play(int run) {
        drawn = run * 7919L;
        TinHouse x = new TinHouse();
        Plain p = new Plain();
        if (run % 4 != 0) {
            for (int i = 1 + draw(10); i > 0; i--) {
                int house = draw(5);
                int town = draw(2);
                CHECK.due("merchant", x.merchant(house, town), p.merchant(house, town));
            }
        }
        if (run % 2 == 0) {
            int n = 2 + draw(5);
            CHECK.due("names", x.names(n), p.names(n));
        }
        for (number = 0; number < CALLS; number++) {
            merchants = x.count(0);
            call(x, p, run);
        }
        CHECK.due("run " + run + " digest", x.digest(), p.digest());
    }

    private void call(TinHouse x, Plain p, int run) {
        String at = "run " + run + " call " + number + " ";
        switch (draw(7)) {
            case 0 -> texts(at, x, p);
            case 1, 2 -> debts(at, x, p);
            case 3 -> ways(at, x, p);
            case 4 -> names(at, x, p);
            case 5 -> letters(at, x, p);
            default -> plans(at, x, p);
        }
    }

    private void texts(String at, TinHouse x, Plain p) {
        int text = from(0, 3);
        switch (draw(7)) {
            case 0 -> {
                String signs = text();
                CHECK.due(at + "erase " + text, x.erase(text), p.erase(text));
                for (char sign : signs.toCharArray()) {
                    CHECK.due(at + "write " + sign, x.write(text, sign), p.write(text, sign));
                }
                CHECK.due(at + "fault of '" + signs + "'", x.fault(text), p.fault(text));
            }
            case 1 -> CHECK.due(at + "fault " + text, x.fault(text), p.fault(text));
            case 2, 3 -> {
                int g = from(0, 5);
                int k = from(0, 1);
                int t = from(0, 1);
                int s = from(0, 99);
                long w = draw(4) == 0 ? drawn : draw(1000) - 100;
                String call = at + "tells '" + (text >= 0 && text < 4 ? p.texts[text] : "");
                CHECK.due(call, x.tells(text, g, k, t, s, w), p.tells(text, g, k, t, s, w));
            }
            case 4 -> {
                int sort = from(0, 2);
                int s = season();
                CHECK.due(at + "act", x.act(text, sort, s), p.act(text, sort, s));
            }
            case 5 -> {
                int sort = from(0, 2);
                int s = season();
                CHECK.due(at + "force", x.force(sort, s), p.force(sort, s));
            }
            default -> {
                int character = from(0, 127);
                CHECK.due(at + "write", x.write(text, character), p.write(text, character));
            }
        }
    }

    private void debts(String at, TinHouse x, Plain p) {
        int debt = from(0, Math.max(0, x.count(2) - 1));
        int purse = from(0, Math.max(0, x.count(4) - 1));
        int a = merchant();
        int b = merchant();
        int s = season();
        int v = sum();
        switch (draw(14)) {
            case 0, 1 -> {
                int due = draw(2) == 0 ? s : season();
                CHECK.due(at + "debt", x.debt(a, b, v, s, due), p.debt(a, b, v, s, due));
            }
            case 2, 3 -> CHECK.due(at + "pay", x.pay(debt, s, v), p.pay(debt, s, v));
            case 4 -> CHECK.due(at + "seal", x.seal(debt, v), p.seal(debt, v));
            case 5 -> CHECK.due(at + "breaks", x.breaks(debt, s), p.breaks(debt, s));
            case 6 -> CHECK.due(at + "owed", x.owed(debt, s), p.owed(debt, s));
            case 7 -> {
                int put = from(1, 10000);
                CHECK.due(at + "purse", x.purse(a, s, put), p.purse(a, s, put));
            }
            case 8 -> {
                int n = from(1, draw(2) == 0 ? 30 : 4);
                CHECK.due(at + "share", x.share(purse, a, n), p.share(purse, a, n));
            }
            case 9 -> CHECK.due(at + "leave", x.leave(purse, a, s), p.leave(purse, a, s));
            case 10 -> {
                int shekels = draw(2) == 0 ? from(0, 100000000) : from(0, 999);
                CHECK.due(at + "parted", x.parted(purse, shekels, a), p.parted(purse, shekels, a));
            }
            case 11 -> CHECK.due(at + "balance", x.balance(a, s), p.balance(a, s));
            case 12 -> CHECK.due(at + "fewest", x.fewest(s), p.fewest(s));
            default -> {
                int what = draw(2) == 0 ? -1 : from(0, 4);
                CHECK.due(at + "ring " + what, x.ring(s, what), p.ring(s, what));
            }
        }
    }

    private void ways(String at, TinHouse x, Plain p) {
        int a = merchant();
        int weight = draw(2) == 0 ? from(1, 1000000) : from(1, 300);
        int s = season();
        switch (draw(8)) {
            case 0 -> {
                int land = from(0, 1);
                CHECK.due(at + "gate", x.gate(land), p.gate(land));
            }
            case 1, 2 -> CHECK.due(at + "wide", x.wide(a, weight, s), p.wide(a, weight, s));
            case 3 -> {
                int n = from(2, draw(2) == 0 ? 5 : 100);
                CHECK.due(at + "narrow", x.narrow(n), p.narrow(n));
            }
            case 4 -> CHECK.due(at + "mean", x.mean(weight), p.mean(weight));
            case 5 -> CHECK.due(at + "better", x.better(a, weight, s), p.better(a, weight, s));
            case 6 -> {
                int stone = from(1, draw(2) == 0 ? 40 : 10000);
                int b = draw(3) == 0 ? from(1, 10000) : stone + draw(5) - 2;
                int e = draw(3) == 0 ? b / 2 : from(0, Math.max(0, b - 1));
                CHECK.due(at + "stone", x.stone(stone, b, e), p.stone(stone, b, e));
            }
            default -> {
                int which = from(0, 1);
                CHECK.due(at + "span", x.span(weight, which), p.span(weight, which));
            }
        }
        int part = from(0, 1);
        CHECK.due(at + "part", x.part(part), p.part(part));
    }

    private void names(String at, TinHouse x, Plain p) {
        int a = from(0, p.names - 1);
        int b = from(0, p.names - 1);
        int k = draw(2) == 0 ? from(0, 9) : from(0, 99);
        // Plain visits all rows of all names: asked seldom where they are many.
        int kind = p.names > 6 && draw(6) > 0 ? draw(4) : draw(8);
        switch (kind) {
            case 0 -> {
                if (draw(8) == 0) {
                    CHECK.due(at + "names", x.names(a), p.names(a));
                }
            }
            case 1, 2, 3 -> {
                int first = draw(5) == 0 ? a : Math.max(a, b);
                int second = first == a ? b : Math.min(a, b);
                CHECK.due(at + "ahead", x.ahead(first, second, k), p.ahead(first, second, k));
            }
            case 4 -> CHECK.due(at + "orders", x.orders(k), p.orders(k));
            case 5, 6 -> {
                int which = from(0, 1);
                CHECK.due(at + "place", x.place(a, k, which), p.place(a, k, which));
            }
            default -> CHECK.due(at + "order", x.order(k, a), p.order(k, a));
        }
    }

    private void letters(String at, TinHouse x, Plain p) {
        int a = merchant();
        int b = merchant();
        int day = draw(4) == 0 ? from(0, 9999) : from(0, 20);
        switch (draw(8)) {
            case 0, 1 -> {
                int come = draw(2) == 0 ? day : day + draw(6) - 1;
                int thing = from(-1, 7);
                CHECK.due(at + "letter", x.letter(a, b, day, come, thing), p.letter(a, b, day, come, thing));
            }
            case 2, 3 -> {
                int thing = from(0, 7);
                CHECK.due(at + "knows", x.knows(a, thing, day), p.knows(a, thing, day));
            }
            case 4 -> {
                int letter = from(0, Math.max(0, x.count(8) - 1));
                CHECK.due(at + "carries", x.carries(letter), p.carries(letter));
            }
            case 5 -> {
                int house = draw(3) == 0 ? -1 : from(0, 4);
                int seal = draw(3) > 0 ? -1 : from(0, draw(2) == 0 ? 2 : 9);
                int s = from(0, 99);
                CHECK.due(at + "mention", x.mention(house, seal, s), p.mention(house, seal, s));
            }
            default -> {
                int what = draw(3) == 0 ? -1 : from(0, Math.max(0, x.count(9) - 1));
                // Plain visits all partings: asked seldom where they are many.
                if (x.count(9) < 8 || draw(8) == 0) {
                    CHECK.due(at + "men " + what, x.men(what), p.men(what));
                }
            }
        }
    }

    private void plans(String at, TinHouse x, Plain p) {
        int a = merchant();
        int s = season();
        int i = from(0, 1);
        switch (draw(12)) {
            case 0, 1, 2 -> {
                int weight = draw(2) == 0 ? from(1, 1000000) : from(1, 300);
                int cost = draw(2) == 0 ? from(0, 1000000) : from(0, 300);
                CHECK.due(at + "load", x.load(a, weight, cost), p.load(a, weight, cost));
            }
            case 3 -> {
                if (draw(4) == 0) {
                    CHECK.due(at + "unload", x.unload(), p.unload());
                }
            }
            case 4, 5 -> {
                int world = from(0, 2);
                int v = from(0, draw(2) == 0 ? 1000 : 100);
                CHECK.due(at + "price", x.price(world, v), p.price(world, v));
            }
            case 6, 7 -> {
                int what = draw(2) == 0 ? -1 : from(0, Math.max(0, x.count(10) - 1));
                CHECK.due(at + "plan " + what, x.plan(s, what), p.plan(s, what));
            }
            case 8 -> {
                int house = from(0, 4);
                int town = from(0, 1);
                CHECK.due(at + "merchant", x.merchant(house, town), p.merchant(house, town));
            }
            case 9 -> {
                int what = from(0, 10);
                CHECK.due(at + "count " + what, x.count(what), p.count(what));
            }
            case 10 -> {
                if (draw(2) == 0) {
                    CHECK.due(at + "image", x.image(i), p.image(i));
                } else if (draw(6) == 0) {
                    CHECK.due(at + "from", x.from(i), p.from(i));
                }
            }
            default -> CHECK.due(at + "digest", x.digest(), p.digest());
        }
    }
}
