/** Promises 1 to 6: a new object, cell, cellOf, tell, where, now. */
public final class ShireTest {
    private static final Checks c = new Checks("ShireTest");

    public static void main(String[] args) {
        newObject();
        cell();
        cellOf();
        tellAndWhere();
        now();
        c.end();
    }

    private static void newObject() {
        MoleSecrets x = new MoleSecrets();
        for (int what = 0; what <= 5; what++) {
            c.due("now(" + what + ")", x.now(what), 0);
        }
        for (int cell = 0; cell < 30; cell++) {
            for (int what = 0; what <= 3; what++) {
                c.due("cellOf(" + cell + ", " + what + ")", x.cellOf(cell, what), 0);
            }
        }
        for (int secret = 0; secret < 6; secret++) {
            c.due("where(" + secret + ")", x.where(secret), -1);
        }
        for (int what = 0; what <= 3; what++) {
            c.due("count(" + what + ")", x.count(what), 0);
        }
        for (int which = -1; which <= 6; which++) {
            c.due("status(" + which + ")", x.status(which), 0);
        }
        c.due("wipe()", x.wipe(), 0);
        c.due("tear()", x.tear(), 0);
        c.due("undo()", x.undo(), Checks.NONE);
        c.due("of(0, 0)", x.of(0, 0), Checks.BEYOND);
        for (int s = 0; s < 4; s++) {
            c.due("write(" + s + ", 0, 0)", x.write(s, 0, 0), Checks.MISSING);
        }
        MoleSecrets y = new MoleSecrets();
        y.cell(3, 0, 1);
        c.due("another object's cellOf(3, 0)", x.cellOf(3, 0), 0);
    }

    private static void cell() {
        MoleSecrets x = new MoleSecrets();
        c.due("cell(0, 0, 1)", x.cell(0, 0, 1), 0);
        c.due("cell(0, 0, 1)", x.cell(0, 0, 1), 1);
        c.due("cell(29, 0, 1)", x.cell(29, 0, 1), 0);
        c.due("now(1)", x.now(1), 1 | 1 << 29);
        c.due("cell(0, 0, 0)", x.cell(0, 0, 0), 1);
        c.due("now(1)", x.now(1), 1 << 29);
        c.due("cell(29, 1, 99)", x.cell(29, 1, 99), 0);
        c.due("cell(29, 1, 7)", x.cell(29, 1, 7), 99);
        c.due("cellOf(29, 1)", x.cellOf(29, 1), 7);
        c.due("cellOf(28, 1)", x.cellOf(28, 1), 0);
        int[][] wrong = {{-1, 0, 1}, {30, 0, 1}, {0, -1, 0}, {0, 2, 0}, {0, 0, -1}, {0, 0, 2}, {0, 1, -1}, {0, 1, 100}};
        for (int[] w : wrong) {
            c.due("cell(" + w[0] + ", " + w[1] + ", " + w[2] + ")", x.cell(w[0], w[1], w[2]), Checks.BEYOND);
        }
        for (int far : Checks.FAR_OFF) {
            c.due("cell(" + far + ", 0, 0)", x.cell(far, 0, 0), Checks.BEYOND);
            c.due("cell(0, " + far + ", 0)", x.cell(0, far, 0), Checks.BEYOND);
            c.due("cell(0, 1, " + far + ")", x.cell(0, 1, far), Checks.BEYOND);
        }
        c.due("cellOf(0, 0)", x.cellOf(0, 0), 0);
        c.due("cellOf(0, 1)", x.cellOf(0, 1), 0);
    }

    private static void cellOf() {
        MoleSecrets x = Checks.of("mole 4 9; mole 5 9; digger 4 9; secret 0 4; secret 5 4; secret 2 5; dug 4");
        c.due("cellOf(4, 0)", x.cellOf(4, 0), 1);
        c.due("cellOf(5, 0)", x.cellOf(5, 0), 0);
        c.due("cellOf(4, 2)", x.cellOf(4, 2), 5);
        c.due("cellOf(5, 2)", x.cellOf(5, 2), 2);
        c.due("cellOf(9, 2)", x.cellOf(9, 2), 0);
        c.due("cellOf(4, 3)", x.cellOf(4, 3), 33);
        c.due("cellOf(5, 3)", x.cellOf(5, 3), 4);
        x.set(0, 1, 29);
        c.due("cellOf(29, 2)", x.cellOf(29, 2), 1);
        c.due("cellOf(4, 2)", x.cellOf(4, 2), 4);
        int[][] wrong = {{-1, 0}, {30, 0}, {0, -1}, {0, 4}};
        for (int[] w : wrong) {
            c.due("cellOf(" + w[0] + ", " + w[1] + ")", x.cellOf(w[0], w[1]), Checks.BEYOND);
        }
        for (int far : Checks.FAR_OFF) {
            c.due("cellOf(" + far + ", 0)", x.cellOf(far, 0), Checks.BEYOND);
            c.due("cellOf(0, " + far + ")", x.cellOf(0, far), Checks.BEYOND);
        }
    }

    private static void tellAndWhere() {
        MoleSecrets x = Checks.of("mole 0 1; mole 6 11");
        c.due("tell(0, 0)", x.tell(0, 0), -1);
        c.due("tell(5, 29)", x.tell(5, 29), -1);
        c.due("tell(1, 6)", x.tell(1, 6), -1);
        c.due("where(5)", x.where(5), 29);
        x.minutes(1);
        c.due("where(0)", x.where(0), -2);
        c.due("of(0, 6)", x.of(0, 6), 0);
        c.due("tell(0, 0) again, carried", x.tell(0, 0), -2);
        c.due("of(0, 6)", x.of(0, 6), -1);
        c.due("of(1, 6), another's", x.of(1, 6), 1);
        x.minutes(1);
        c.due("where(0), out", x.where(0), -3);
        c.due("tell(0, -1)", x.tell(0, -1), -3);
        c.due("where(0)", x.where(0), -1);
        c.due("tell(1, -1), carried", x.tell(1, -1), -2);
        c.due("of(1, 6)", x.of(1, 6), -1);
        c.due("now(4)", x.now(4), 0);
        c.due("tell(5, -1)", x.tell(5, -1), 29);
        int[][] wrong = {{-1, 0}, {6, 0}, {0, -2}, {0, -3}, {0, 30}};
        for (int[] w : wrong) {
            c.due("tell(" + w[0] + ", " + w[1] + ")", x.tell(w[0], w[1]), Checks.BEYOND);
        }
        c.due("where(-1)", x.where(-1), Checks.BEYOND);
        c.due("where(6)", x.where(6), Checks.BEYOND);
        for (int far : Checks.FAR_OFF) {
            c.due("tell(" + far + ", 0)", x.tell(far, 0), Checks.BEYOND);
            c.due("tell(0, " + far + ")", x.tell(0, far), Checks.BEYOND);
            c.due("where(" + far + ")", x.where(far), Checks.BEYOND);
        }
        c.due("where(0)", x.where(0), -1);
    }

    private static void now() {
        MoleSecrets x = Checks.of("mole 0 1; mole 6 7; secret 3 0; secret 2 6; dug 29; dug 1");
        x.cell(4, 1, 5);
        x.cell(29, 1, 90);
        c.due("now(0)", x.now(0), 0);
        c.due("now(2)", x.now(2), 95);
        c.due("now(5)", x.now(5), 0);
        x.minutes(1);
        c.due("now(0)", x.now(0), 1);
        c.due("now(1)", x.now(1), 1 << 29 | 1 << 7 | 1 << 1);
        c.due("now(2)", x.now(2), 96);
        c.due("now(3)", x.now(3), 8);
        c.due("now(4)", x.now(4), 4);
        c.due("now(5)", x.now(5), 12);
        MoleSecrets six = new MoleSecrets();
        for (int mole = 0; mole < 6; mole++) {
            six.mole(mole, 0, 0);
            six.set(mole, 5, 9999);
        }
        c.due("now(5) of six", six.now(5), 59994);
        c.due("now(-1)", x.now(-1), Checks.BEYOND);
        c.due("now(6)", x.now(6), Checks.BEYOND);
        for (int far : Checks.FAR_OFF) {
            c.due("now(" + far + ")", x.now(far), Checks.BEYOND);
        }
    }
}
