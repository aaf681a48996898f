/** What the project's tests share: a count of the answers that are not as due, and lands told in a text. */
final class Due implements Answers {
    private int asked = 0;
    private int wrong = 0;

    void due(String call, long got, long want) {
        asked++;
        if (got != want) {
            wrong++;
            System.out.println(call + " answered " + got + ", due is " + want);
        }
    }

    void holds(String what, boolean so) {
        due(what, so ? 1 : 0, 1);
    }

    /** A text with a fault, on a new object: its place, its number, and that no land is read. */
    void faulty(String text, int place, int fault) {
        EscrowLand x = new EscrowLand();
        due("land() of " + text, read(x, text), FAULTY - place);
        due("fault() of " + text, x.fault(), fault);
        due("no land of " + text, x.count(1), 0);
        due("the tape of " + text, x.count(5), 0);
    }

    /** An ask, its answer, and the whole trace with nothing ahead of it and behind it. */
    void asked(EscrowLand x, int one, int what, int answer, int... bodies) {
        String call = "ask(" + one + ", " + what + ")";
        due(call, x.ask(one, what), answer);
        for (int i = 0; i < bodies.length; i++) {
            due(call + ", trace(" + i + ")", x.trace(i), bodies[i]);
        }
        for (int i : new int[] {LEAST, -1, bodies.length, 15, 16, 17, MOST}) {
            due(call + ", trace(" + i + ")", x.trace(i), NONE);
        }
    }

    boolean isAllRight() {
        return wrong == 0;
    }

    void end() {
        System.out.println(asked + " answers, " + wrong + " not as due");
        if (wrong != 0 || asked == 0) {
            System.exit(1);
        }
    }

    static int read(EscrowLand land, String text) {
        for (int i = 0; i < text.length(); i++) {
            land.feed(text.charAt(i));
        }
        return land.land();
    }

    static EscrowLand told(String text) {
        EscrowLand land = new EscrowLand();
        if (read(land, text) < 0) {
            throw new IllegalStateException("a text with a fault: " + text);
        }
        return land;
    }

    /** More days than one call takes. */
    static void pass(EscrowLand land, int days) {
        for (int left = days; left > 0; left -= 24) {
            land.days(Math.min(left, 24));
        }
    }

    static void fill(EscrowLand land, int row, int lane, int... items) {
        land.row(row, lane, items.length);
        for (int i = 0; i < items.length; i++) {
            land.set(row, i, items[i]);
        }
    }
}
