/** A TinHouse and a Plain that are asked the same calls: all answers must be alike. */
final class Pair {
    final Plain plain = new Plain();
    private final TinHouse house = new TinHouse();
    private final Check check;
    private final String name;
    private int asked = 0;

    Pair(Check check, String name) {
        this.check = check;
        this.name = name;
    }

    /** Whether calls are left; the last one is kept for the digest. */
    boolean isLeft() {
        return asked < Case.CALLS - 1;
    }

    /** What Plain answers; calls beyond those that an object is used for are not made. */
    long ask(String call, long... numbers) {
        if (!isLeft()) {
            return TinHouse.BAD;
        }
        asked++;
        long due = Calls.ask(plain, call, numbers);
        String written = name + " call " + asked + " " + Calls.written(call, numbers);
        check.due(written, Calls.ask(house, call, numbers), due);
        return due;
    }

    /** A text in place of what is there. */
    void text(int text, String signs) {
        ask("erase", text);
        for (int i = 0; i < signs.length(); i++) {
            ask("write", text, signs.charAt(i));
        }
    }

    void end() {
        check.due(name + " digest", house.digest(), plain.digest());
    }
}
