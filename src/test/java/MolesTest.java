/** Promises 7 to 12: mole, of, charges, set, turn, as. */
public final class MolesTest {
    private static final Checks c = new Checks("MolesTest");

    public static void main(String[] args) {
        mole();
        ofEachKind();
        ofWrong();
        charges();
        set();
        turn();
        as();
        c.end();
    }

    private static void mole() {
        MoleSecrets x = new MoleSecrets();
        for (int kind = 0; kind < 6; kind++) {
            c.due("mole(" + kind + ")", x.mole(kind, 29 - kind, kind), kind);
        }
        for (int kind = 0; kind < 6; kind++) {
            int[] due = {kind, 29 - kind, 29 - kind, kind, 1, 0, -1};
            for (int what = 0; what <= 6; what++) {
                c.due("of(" + kind + ", " + what + ")", x.of(kind, what), due[what]);
            }
        }
        c.due("a 7th", x.mole(0, 0, 0), Checks.FULL);
        c.due("a 7th of no kind", x.mole(6, 0, 0), Checks.BEYOND);
        c.due("count(0)", x.count(0), 6);
        MoleSecrets y = new MoleSecrets();
        int[][] wrong = {{-1, 0, 0}, {6, 0, 0}, {0, -1, 0}, {0, 30, 0}, {0, 0, -1}, {0, 0, 30}};
        for (int[] w : wrong) {
            c.due("mole(" + w[0] + ", " + w[1] + ", " + w[2] + ")", y.mole(w[0], w[1], w[2]), Checks.BEYOND);
        }
        for (int far : Checks.FAR_OFF) {
            c.due("mole(" + far + ", 0, 0)", y.mole(far, 0, 0), Checks.BEYOND);
            c.due("mole(0, " + far + ", 0)", y.mole(0, far, 0), Checks.BEYOND);
            c.due("mole(0, 0, " + far + ")", y.mole(0, 0, far), Checks.BEYOND);
        }
        c.due("count(0)", y.count(0), 0);
        // What an undone one had been must not come back with the next of its number.
        y.image();
        Checks.play(y, "hurrier 3 9; secret 0 3");
        y.minutes(2);
        y.undo();
        c.due("mole(0, 7, 9)", y.mole(0, 7, 9), 0);
        int[] due = {0, 7, 7, 9, 1, 0, -1};
        for (int what = 0; what <= 6; what++) {
            c.due("of(0, " + what + ") of a new one", y.of(0, what), due[what]);
        }
    }

    private static void ofEachKind() {
        int[] empty = {1, 1, 1, 1, 2, 2};
        int[] carrying = {1, 1, 2, 0, 2, 3};
        int[] digs = {1, 2, 1, 0, 2, 1};
        int[] evenRow = {0, 1, 0, 1, 1, 0};
        int[] oddRow = {0, 1, 0, 1, 0, 0};
        for (int kind = 0; kind < 6; kind++) {
            MoleSecrets x = new MoleSecrets();
            x.mole(kind, 0, 29);
            c.due("STEPS of " + kind, x.of(0, 7), empty[kind]);
            c.due("DIGS of " + kind, x.of(0, 8), digs[kind]);
            for (int row = 0; row < 5; row++) {
                x.set(0, 1, 6 * row + 5);
                c.due("TURNS FIRST of " + kind, x.of(0, 9), row % 2 == 0 ? evenRow[kind] : oddRow[kind]);
            }
            x.set(0, 1, 0);
            x.tell(1, 0);
            x.minutes(1);
            c.due("CARRIES of " + kind, x.of(0, 6), 1);
            c.due("STEPS, CARRYING, of " + kind, x.of(0, 7), carrying[kind]);
        }
        MoleSecrets x = Checks.of("retired 0 29");
        for (int t = 0; t < 10; t++) {
            c.due("STEPS of RETIRED in " + t, x.of(0, 7), t % 3 == 0 ? 1 : 0);
            x.minutes(1);
        }
    }

    private static void ofWrong() {
        MoleSecrets x = Checks.of("mole 0 1; mole 0 1");
        int[][] wrong = {{-1, 0}, {2, 0}, {6, 0}, {0, -1}, {0, 10}};
        for (int[] w : wrong) {
            c.due("of(" + w[0] + ", " + w[1] + ")", x.of(w[0], w[1]), Checks.BEYOND);
        }
        for (int far : Checks.FAR_OFF) {
            c.due("of(" + far + ", 0)", x.of(far, 0), Checks.BEYOND);
            c.due("of(0, " + far + ")", x.of(0, far), Checks.BEYOND);
        }
    }

    private static void charges() {
        int[] forCell = {2, 1, 2, 0, 1, 2};
        int[] forSecret = {10, 10, 15, 0, 14, 30};
        MoleSecrets x = new MoleSecrets();
        for (int kind = 0; kind < 6; kind++) {
            x.mole(kind, 0, 0);
            c.due("charges(" + kind + ", 0)", x.charges(kind, 0), forCell[kind]);
            c.due("charges(" + kind + ", 1)", x.charges(kind, 1), forSecret[kind]);
        }
        c.due("charges(0, -1)", x.charges(0, -1), Checks.BEYOND);
        c.due("charges(0, 2)", x.charges(0, 2), Checks.BEYOND);
        c.due("charges(6, 0)", x.charges(6, 0), Checks.BEYOND);
        c.due("charges(-1, 0)", x.charges(-1, 0), Checks.BEYOND);
        c.due("charges(0, 0) of none", new MoleSecrets().charges(0, 0), Checks.BEYOND);
        for (int far : Checks.FAR_OFF) {
            c.due("charges(" + far + ", 0)", x.charges(far, 0), Checks.BEYOND);
            c.due("charges(0, " + far + ")", x.charges(0, far), Checks.BEYOND);
        }
    }

    private static void set() {
        MoleSecrets x = Checks.of("mole 1 2; mole 3 4");
        int[] was = {0, 3, 3, 4, 1, 0};
        int[] most = {0, 29, 29, 29, 1, 9999};
        for (int what = 1; what <= 5; what++) {
            c.due("set(1, " + what + ", most)", x.set(1, what, most[what]), was[what]);
            c.due("of(1, " + what + ")", x.of(1, what), most[what]);
            c.due("set(1, " + what + ", one more)", x.set(1, what, most[what] + 1), Checks.BEYOND);
            c.due("set(1, " + what + ", -1)", x.set(1, what, -1), Checks.BEYOND);
            c.due("set(1, " + what + ", 0)", x.set(1, what, 0), most[what]);
            c.due("of(1, " + what + ")", x.of(1, what), 0);
        }
        int[] other = {0, 1, 1, 2, 1, 0};
        for (int what = 1; what <= 5; what++) {
            c.due("of(0, " + what + ")", x.of(0, what), other[what]);
        }
        int[][] wrong = {{-1, 1, 0}, {2, 1, 0}, {0, 0, 0}, {0, 6, 0}, {0, -1, 0}};
        for (int[] w : wrong) {
            c.due("set(" + w[0] + ", " + w[1] + ", " + w[2] + ")", x.set(w[0], w[1], w[2]), Checks.BEYOND);
        }
        for (int far : Checks.FAR_OFF) {
            c.due("set(" + far + ", 1, 0)", x.set(far, 1, 0), Checks.BEYOND);
            c.due("set(0, " + far + ", 0)", x.set(0, far, 0), Checks.BEYOND);
            c.due("set(0, 1, " + far + ")", x.set(0, 1, far), Checks.BEYOND);
        }
    }

    private static void turn() {
        MoleSecrets x = Checks.of("mole 1 2; mole 1 2; secret 3 1");
        x.minutes(1);
        c.due("turn(0, 5)", x.turn(0, 5), 0);
        c.due("turn(0, 5)", x.turn(0, 5), 5);
        c.due("of(0, 0)", x.of(0, 0), 5);
        c.due("of(0, 7)", x.of(0, 7), 3);
        c.due("of(0, 6)", x.of(0, 6), 3);
        c.due("of(0, 5)", x.of(0, 5), 2);
        c.due("of(1, 0)", x.of(1, 0), 0);
        c.due("turn(0, 0)", x.turn(0, 0), 5);
        int[][] wrong = {{-1, 0}, {2, 0}, {0, -1}, {0, 6}};
        for (int[] w : wrong) {
            c.due("turn(" + w[0] + ", " + w[1] + ")", x.turn(w[0], w[1]), Checks.BEYOND);
        }
        for (int far : Checks.FAR_OFF) {
            c.due("turn(" + far + ", 0)", x.turn(far, 0), Checks.BEYOND);
            c.due("turn(0, " + far + ")", x.turn(0, far), Checks.BEYOND);
        }
        c.due("of(0, 0)", x.of(0, 0), 0);
    }

    private static void as() {
        // A row: of which kinds one of that kind is.
        int[] kinds = {1, 1 | 2, 1 | 4, 1 | 8, 1 | 2 | 16, 1 | 4 | 32};
        MoleSecrets x = new MoleSecrets();
        for (int kind = 0; kind < 6; kind++) {
            x.mole(kind, 0, 0);
            x.set(kind, 5, 100 + kind);
        }
        for (int mole = 0; mole < 6; mole++) {
            for (int kind = 0; kind < 6; kind++) {
                boolean is = (kinds[mole] >> kind & 1) == 1;
                c.due("as(" + mole + ", " + kind + ")", x.as(mole, kind), is ? 100 + mole : Checks.KIND);
            }
        }
        int[][] wrong = {{-1, 0}, {6, 0}, {0, -1}, {0, 6}, {5, 6}};
        for (int[] w : wrong) {
            c.due("as(" + w[0] + ", " + w[1] + ")", x.as(w[0], w[1]), Checks.BEYOND);
        }
        for (int far : Checks.FAR_OFF) {
            c.due("as(" + far + ", 0)", x.as(far, 0), Checks.BEYOND);
            c.due("as(0, " + far + ")", x.as(0, far), Checks.BEYOND);
        }
        c.due("as(0, 0) of none", new MoleSecrets().as(0, 0), Checks.BEYOND);
    }
}
