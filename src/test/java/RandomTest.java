/**
 * Runs of 512 calls, as many as an object is used for, with numbers drawn by a fixed rule: asked of
 * TinHouse and of Plain, all answers must be alike. What the machine throws in TinHouse ends the test.
 */
public final class RandomTest {
    private static final int RUNS = 700;
    private static final String[] PIECES = {
        "g", "k", "t", "s", "w", "0", "1", "7", "30", "100", "500", "1000", "123456", "1234567", "(", ")",
        "!", "-", "?", ":", "|", "&", "<", ">", "=", "+", "*", "/", " ", "x", "~", "((((((((("};
    private static final Check CHECK = new Check("RandomTest");

    private final Pair pair;
    private final Plain p;
    private final int run;
    private final Drawn drawn;

    private RandomTest(int run) {
        this.run = run;
        this.pair = new Pair(CHECK, "run " + run);
        this.p = pair.plain;
        this.drawn = new Drawn(run * 7919L);
    }

    public static void main(String[] args) {
        for (int run = 1; run <= RUNS; run++) {
            new RandomTest(run).play();
        }
        CHECK.end();
    }

    private void ask(String call, long... numbers) {
        pair.ask(call, numbers);
    }

    private int draw(int below) {
        return drawn.below(below);
    }

    /** Mostly from least to most, now and then one too far or far away. */
    private int from(int least, int most) {
        int kind = draw(60);
        if (kind == 0) {
            return least - 1;
        }
        if (kind == 1) {
            return most + 1;
        }
        if (kind == 2) {
            int[] far = {Integer.MIN_VALUE, Integer.MAX_VALUE, -5, 1 << 20, 32, 64};
            return far[draw(far.length)];
        }
        return kind < 10 ? (kind % 2 == 0 ? least : most) : least + draw(most - least + 1);
    }

    /** One of the rows that a count tells, or the first where there are none. */
    private int oneOf(int what) {
        return from(0, Math.max(0, p.count(what) - 1));
    }

    private int merchant() {
        return oneOf(0);
    }

    private int season() {
        return draw(3) == 0 ? from(0, 99) : from(0, 12);
    }

    /** Sums mostly small, so that balances meet. */
    private int sum() {
        return draw(3) == 0 ? from(1, 1000000) : from(1, 8) * (draw(2) == 0 ? 1 : 100);
    }

    private String unit(int depth) {
        int kind = draw(12);
        if (depth > 0 && kind == 0) {
            return "(" + value(depth - 1) + ")";
        }
        if (depth > 0 && kind == 1) {
            return (draw(2) == 0 ? "-" : "!") + unit(depth - 1);
        }
        return kind < 7 ? "gktsw".substring(kind % 5, kind % 5 + 1) : Integer.toString(draw(draw(2) == 0 ? 9 : 1500));
    }

    private String value(int depth) {
        StringBuilder text = new StringBuilder(unit(depth));
        for (int i = draw(4); i > 0; i--) {
            text.append(draw(9) == 0 ? " " : "").append("|&<>=+-*/+-*".charAt(draw(12))).append(unit(depth));
        }
        if (depth > 0 && draw(4) == 0) {
            text.append('?').append(value(depth - 1)).append(':').append(value(depth - 1));
        }
        return text.toString();
    }

    /** What an act tells mostly lies within its bounds, so that all it is told by is seen in it. */
    private String law() {
        StringBuilder text = new StringBuilder().append(draw(30));
        for (int i = 1 + draw(3); i > 0; i--) {
            text.append(draw(4) == 0 ? '-' : '+').append("gkts".charAt(draw(4))).append('*').append(1 + draw(25));
        }
        return draw(3) == 0 ? text.append("+w/").append(1 + draw(300)).toString() : text.toString();
    }

    private String text() {
        int kind = draw(5);
        if (kind > 0) {
            return kind < 3 ? law() : value(3);
        }
        StringBuilder text = new StringBuilder();
        for (int i = draw(14); i >= 0; i--) {
            text.append(PIECES[draw(PIECES.length)]);
        }
        return text.toString();
    }

    private void play() {
        if (run % 4 != 0) {
            for (int i = 1 + draw(10); i > 0; i--) {
                ask("merchant", draw(5), draw(2));
            }
        }
        if (run % 2 == 0) {
            ask("names", 2 + draw(5));
        }
        for (int round = 0; round < Case.CALLS && pair.isLeft(); round++) {
            play(draw(2) == 0 ? run % 9 : draw(7));
        }
        pair.end();
    }

    /** Half of a run's calls are of one kind, so that what is full is met, too. */
    private void play(int kind) {
        switch (kind) {
            case 0 -> texts();
            case 1, 2 -> debts();
            case 3 -> ways();
            case 4 -> names();
            case 5 -> letters();
            case 6 -> plans();
            default -> play(draw(7));
        }
    }

    private void texts() {
        int text = from(0, 3);
        switch (draw(7)) {
            case 0 -> {
                pair.text(text, text());
                ask("fault", text);
            }
            case 1 -> ask("fault", text);
            case 2, 3 -> {
                long w = draw(4) == 0 ? drawn.wide() : draw(1000) - 100;
                ask("tells", text, from(0, 5), from(0, 1), from(0, 1), from(0, 99), w);
            }
            case 4 -> ask("act", text, from(0, 2), season());
            case 5 -> ask("force", from(0, 2), season());
            default -> ask("write", text, from(0, 127));
        }
    }

    private void debts() {
        int debt = oneOf(2);
        int purse = oneOf(4);
        int a = merchant();
        int s = season();
        int v = sum();
        switch (draw(14)) {
            case 0, 1 -> ask("debt", a, merchant(), v, s, draw(2) == 0 ? s : season());
            case 2, 3 -> ask("pay", debt, s, v);
            case 4 -> ask("seal", debt, v);
            case 5 -> ask("breaks", debt, s);
            case 6 -> ask("owed", debt, s);
            case 7 -> ask("purse", a, s, from(1, 10000));
            case 8 -> ask("share", purse, a, from(1, draw(2) == 0 ? 30 : 4));
            case 9 -> ask("leave", purse, a, s);
            case 10 -> ask("parted", purse, draw(2) == 0 ? from(0, 100000000) : from(0, 999), a);
            case 11 -> ask("balance", a, s);
            case 12 -> ask("fewest", s);
            default -> ask("ring", s, draw(2) == 0 ? -1 : from(0, 4));
        }
    }

    private void ways() {
        int a = merchant();
        int weight = draw(2) == 0 ? from(1, 1000000) : from(1, 300);
        int s = season();
        switch (draw(8)) {
            case 0 -> ask("gate", from(0, 1));
            case 1, 2 -> ask("wide", a, weight, s);
            case 3 -> ask("narrow", from(2, draw(2) == 0 ? 5 : 100));
            case 4 -> ask("mean", weight);
            case 5 -> ask("better", a, weight, s);
            case 6 -> {
                int stone = from(1, draw(2) == 0 ? 40 : 10000);
                int b = draw(3) == 0 ? from(1, 10000) : stone + draw(5) - 2;
                ask("stone", stone, b, draw(3) == 0 ? b / 2 : from(0, Math.max(0, b - 1)));
            }
            default -> ask("span", weight, from(0, 1));
        }
        ask("part", from(0, 1));
    }

    private void names() {
        int a = from(0, p.names - 1);
        int b = from(0, p.names - 1);
        int k = draw(2) == 0 ? from(0, 9) : from(0, 99);
        // Plain visits all rows of all names: asked seldom where they are many.
        int kind = p.names > 6 && draw(9) > 0 ? draw(4) : draw(8);
        switch (kind) {
            case 0 -> {
                if (draw(8) == 0) {
                    ask("names", a);
                }
            }
            case 1, 2, 3 -> {
                boolean isLater = draw(5) == 0 || a > b;
                ask("ahead", isLater ? a : b, isLater ? b : a, k);
            }
            case 4 -> ask("orders", k);
            case 5, 6 -> ask("place", a, k, from(0, 1));
            default -> ask("order", k, a);
        }
    }

    private void letters() {
        int a = merchant();
        int day = draw(4) == 0 ? from(0, 9999) : from(0, 20);
        switch (draw(8)) {
            case 0, 1 -> ask("letter", a, merchant(), day, draw(2) == 0 ? day : day + draw(6) - 1, from(-1, 7));
            case 2, 3 -> ask("knows", a, from(0, 7), day);
            case 4 -> ask("carries", oneOf(8));
            case 5 -> {
                int house = draw(3) == 0 ? -1 : from(0, 4);
                int seal = draw(3) > 0 ? -1 : from(0, draw(2) == 0 ? 2 : 9);
                ask("mention", house, seal, from(0, 99));
            }
            default -> {
                int what = draw(3) == 0 ? -1 : oneOf(9);
                // Plain visits all partings: asked seldom where they are many.
                if (p.count(9) < 8 || draw(8) == 0) {
                    ask("men", what);
                }
            }
        }
    }

    private void plans() {
        int i = from(0, 1);
        switch (draw(12)) {
            case 0, 1, 2 -> {
                int weight = draw(2) == 0 ? from(1, 1000000) : from(1, 300);
                ask("load", merchant(), weight, draw(2) == 0 ? from(0, 1000000) : from(0, 300));
            }
            case 3 -> {
                if (draw(4) == 0) {
                    ask("unload");
                }
            }
            case 4, 5 -> ask("price", from(0, 2), from(0, draw(2) == 0 ? 1000 : 100));
            case 6, 7 -> ask("plan", season(), draw(2) == 0 ? -1 : oneOf(10));
            case 8 -> ask("merchant", from(0, 4), from(0, 1));
            case 9 -> ask("count", from(0, 10));
            case 10 -> {
                if (draw(2) == 0) {
                    ask("image", i);
                } else if (draw(6) == 0) {
                    ask("from", i);
                }
            }
            default -> ask("digest");
        }
    }
}
