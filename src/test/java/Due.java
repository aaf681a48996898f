/** What the project's tests share: a count of the answers that are not as due, and lands told in a text. */
final class Due {
    private int asked = 0;
    private int wrong = 0;

    void due(String call, long got, long want) {
        asked++;
        if (got != want) {
            wrong++;
            System.out.println(call + " answered " + got + ", due is " + want);
        }
    }

    void holds(String what, boolean so) {
        due(what, so ? 1 : 0, 1);
    }

    boolean isAllRight() {
        return wrong == 0;
    }

    void end() {
        System.out.println(asked + " answers, " + wrong + " not as due");
        if (wrong != 0 || asked == 0) {
            System.exit(1);
        }
    }

    static int read(EscrowLand land, String text) {
        for (int i = 0; i < text.length(); i++) {
            land.feed(text.charAt(i));
        }
        return land.land();
    }

    static EscrowLand told(String text) {
        EscrowLand land = new EscrowLand();
        if (read(land, text) < 0) {
            throw new IllegalStateException("a text with a fault: " + text);
        }
        return land;
    }

    static void fill(EscrowLand land, int row, int lane, int... items) {
        land.row(row, lane, items.length);
        for (int i = 0; i < items.length; i++) {
            land.set(row, i, items[i]);
        }
    }
}
