/** Counts answers that are not the ones due, and ends a test by them. */
final class Checks {
    static final int BEYOND = -1000000001;
    static final int FULL = -1000000002;
    static final int KIND = -1000000003;
    static final int NONE = -1000000004;
    static final int STATE = -1000000005;
    static final int MISSING = -1000000006;
    static final int SIZE = -1000000007;

    /** Wrong whatever an argument means; the edges of each call stand in its own test. */
    static final int[] FAR_OFF = {Integer.MIN_VALUE, -1000000001, 1000, Integer.MAX_VALUE};

    private final String name;
    private int wrong = 0;
    private int asked = 0;

    Checks(String name) {
        this.name = name;
    }

    void due(String call, long got, long want) {
        asked++;
        if (got != want) {
            wrong++;
            if (wrong <= 40) {
                System.out.println(name + ": " + call + " answered " + got + ", due is " + want);
            }
        }
    }

    /** The cells of a mole 0, 1, .. MINUTES AHEAD. */
    void path(MoleSecrets x, int mole, int... cells) {
        for (int n = 0; n < cells.length; n++) {
            due("on(" + mole + ", " + n + ", 0)", x.on(mole, n, 0), cells[n]);
        }
    }

    /** A text comes to THE TAPE by one to four bytes at once. */
    static void feedText(MoleSecrets x, String text) {
        int place = 0;
        int next = 4;
        while (place < text.length()) {
            int n = Math.min(next, text.length() - place);
            int bytes = 0;
            for (int i = 0; i < n; i++) {
                bytes = bytes << 8 | text.charAt(place + i);
            }
            x.feed(bytes, n);
            place += n;
            next = next == 1 ? 4 : next - 1;
        }
    }

    static int play(MoleSecrets x, String text) {
        feedText(x, text);
        return x.shire();
    }

    static MoleSecrets of(String text) {
        MoleSecrets x = new MoleSecrets();
        play(x, text);
        return x;
    }

    /** All that the calls tell of section 1, THE TAPE's length and whether sheets are there, without a finding. */
    static String state(MoleSecrets x) {
        StringBuilder all = new StringBuilder();
        for (int what = 0; what <= 5; what++) {
            all.append(x.now(what)).append(' ');
        }
        for (int cell = 0; cell < 30; cell++) {
            for (int what = 0; what <= 3; what++) {
                all.append(x.cellOf(cell, what)).append(' ');
            }
        }
        for (int secret = 0; secret < 6; secret++) {
            all.append(x.where(secret)).append(' ');
        }
        for (int mole = 0; mole < x.count(0); mole++) {
            for (int what = 0; what <= 9; what++) {
                all.append(x.of(mole, what)).append(' ');
            }
        }
        return all.append("tape ").append(x.count(1)).toString();
    }

    void same(String call, String got, String want) {
        asked++;
        if (!got.equals(want)) {
            wrong++;
            System.out.println(name + ": " + call + " left " + got + ", due is " + want);
        }
    }

    void end() {
        System.out.println(name + ": " + asked + " answers, " + wrong + " not as due");
        if (wrong != 0) {
            System.exit(1);
        }
    }
}
