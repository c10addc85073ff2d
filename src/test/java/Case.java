/**
 * One case on a house of its own. What is told it is told a twin and Plain, too; what it refuses it is
 * asked alone. So a refusal that changes anything is found: right behind it by the digest, and in the end
 * by a long look at both houses, in which every answer must be alike.
 */
final class Case {
    /** An object is used for so many calls; what later ones answer is free. */
    static final int CALLS = 512;

    private final String name;
    private final TinHouse house = new TinHouse();
    private final TinHouse twin = new TinHouse();
    private final Plain plain = new Plain();
    private int asked = 0;
    private int wrong = 0;

    Case(String name) {
        this.name = name;
    }

    /** A call that is taken, and what it answers. */
    Case gives(long due, String call, long... numbers) {
        due(Calls.written(call, numbers), ask(call, numbers), due);
        Calls.ask(twin, call, numbers);
        due("Plain's " + Calls.written(call, numbers), Calls.ask(plain, call, numbers), due);
        return this;
    }

    /** A call that is refused, with what it answers: nothing has changed. */
    Case refuses(long due, String call, long... numbers) {
        String written = Calls.written(call, numbers);
        due(written, ask(call, numbers), due);
        due("Plain's " + written, Calls.ask(plain, call, numbers), due);
        due("the digest behind " + written, ask("digest"), twin.digest());
        return this;
    }

    /** What must be there ahead of the case: taken, whatever it answers. */
    Case tell(String call, long... numbers) {
        ask(call, numbers);
        Calls.ask(twin, call, numbers);
        Calls.ask(plain, call, numbers);
        return this;
    }

    /** So many merchants: of house i modulo 5, of town i modulo 2. */
    Case merchants(int n) {
        for (int i = 0; i < n; i++) {
            tell("merchant", i % 5, i % 2);
        }
        return this;
    }

    /** A text in place of what is there. */
    Case text(int text, String signs) {
        tell("erase", text);
        for (int i = 0; i < signs.length(); i++) {
            tell("write", text, signs.charAt(i));
        }
        return this;
    }

    /** An act of a text that is written for it. */
    Case act(String signs, int sort, int from) {
        text(3, signs);
        return tell("act", 3, sort, from);
    }

    /** A call told so many times. */
    Case times(int n, String call, long... numbers) {
        for (int i = 0; i < n; i++) {
            tell(call, numbers);
        }
        return this;
    }

    /** The digest as Plain tells it now. */
    long plainDigest() {
        return plain.digest();
    }

    /** How many answers were wrong. */
    int end() {
        due("the digest", ask("digest"), Calls.ask(plain, "digest"));
        new Look(house, twin, CALLS - asked).compare(this);
        return wrong;
    }

    private long ask(String call, long... numbers) {
        asked++;
        if (asked > CALLS) {
            throw new IllegalStateException(name + ": more calls than an object is used for");
        }
        return Calls.ask(house, call, numbers);
    }

    void due(String call, long got, long due) {
        if (got != due) {
            wrong++;
            System.out.println(name + ": " + call + " answered " + got + ", due is " + due);
        }
    }
}
