/** Promises 13 to 18: minutes, on, then, out, dug, comes; and how a MINUTE goes for each kind. */
public final class MinutesTest {
    private static final Checks c = new Checks("MinutesTest");

    public static void main(String[] args) {
        pathsOfKinds();
        pathsOfCarriers();
        retired();
        turningRound();
        pickingUp();
        bringingOut();
        oneBehindTheOther();
        most();
        minutes();
        lastMinute();
        ahead();
        outDugComes();
        wrong();
        c.end();
    }

    private static void pathsOfKinds() {
        MoleSecrets mole = Checks.of("mole 0 8");
        c.path(mole, 0, 0, 0, 1, 1, 2, 2, 8, 8, 7, 7, 6, 6, 0, 1, 2, 8, 7);
        c.due("HANDS of a MOLE", mole.on(0, 6, 1), 6);
        c.due("HANDS of a MOLE", mole.on(0, 20, 1), 12);
        MoleSecrets digger = Checks.of("digger 0 8");
        c.path(digger, 0, 0, 6, 7, 8, 2, 1, 0, 6, 7, 8);
        c.due("HANDS of a DIGGER", digger.on(0, 20, 1), 6);
        MoleSecrets master = Checks.of("master 0 15");
        c.path(master, 0, 0, 7, 9, 9, 7, 0);
        c.due("HANDS of a MASTER", master.on(0, 3, 1), 5);
        MoleSecrets up = Checks.of("digger 29 0");
        c.path(up, 0, 29, 23, 17, 11, 5, 4, 3, 2, 1, 0, 6);
        MoleSecrets carrier = Checks.of("carrier 0 2");
        c.path(carrier, 0, 0, 0, 1, 1, 2, 1, 1, 0, 1, 2);
        c.due("HANDS of a CARRIER", carrier.on(0, 20, 1), 6);
        MoleSecrets hurrier = Checks.of("hurrier 0 3");
        c.path(hurrier, 0, 0, 1, 2, 3, 1, 0, 2);
    }

    private static void pathsOfCarriers() {
        MoleSecrets carrier = Checks.of("carrier 0 2; secret 4 0");
        c.path(carrier, 0, 0, 0, 1, 1);
        c.due("then(4, 0)", carrier.then(4, 0), 0);
        c.due("then(4, 1)", carrier.then(4, 1), -2);
        c.due("then(4, 3)", carrier.then(4, 3), -3);
        c.due("HANDS", carrier.on(0, 2, 1), 4);
        c.due("HANDS", carrier.on(0, 3, 1), 19);
        MoleSecrets hurrier = Checks.of("hurrier 29 25; secret 0 29");
        c.path(hurrier, 0, 29, 28, 27, 25);
        c.due("HANDS", hurrier.on(0, 2, 1), 6);
        c.due("HANDS", hurrier.on(0, 3, 1), 38);
        MoleSecrets master = Checks.of("master 0 12; secret 0 0");
        c.path(master, 0, 0, 12, 0);
        c.due("HANDS", master.on(0, 1, 1), 16);
        MoleSecrets digger = Checks.of("digger 0 1; secret 0 0");
        c.due("HANDS", digger.on(0, 1, 1), 11);
    }

    private static void retired() {
        MoleSecrets x = Checks.of("retired 0 2; secret 1 0; dug 0; dug 1; dug 2");
        c.path(x, 0, 0, 1, 1, 1, 2, 2, 2, 1, 1, 1, 0, 0, 0, 1);
        c.due("HANDS", x.on(0, 13, 1), 0);
        c.due("out(1)", x.out(1), 4);
        // Before earth it turns, digs nothing, and is at its HOME already, so it turns back.
        MoleSecrets y = Checks.of("retired 0 2");
        c.path(y, 0, 0, 0, 0, 0, 0);
        c.due("dug(1)", y.dug(1), Checks.NONE);
        y.minutes(1);
        c.due("of(0, 4)", y.of(0, 4), 1);
        MoleSecrets z = Checks.of("retired 0 2; dug 1; dug 0");
        c.path(z, 0, 0, 1, 1, 1, 1, 1, 1, 0, 0, 0, 1);
        z.minutes(4);
        c.due("of(0, 4)", z.of(0, 4), 0);
        // By ROWS first: cell 6 is earth though cell 1 is not.
        MoleSecrets w = Checks.of("retired 0 7; dug 1; dug 7");
        c.path(w, 0, 0, 0, 0, 0, 0);
        // It lifts what lies there in a MINUTE without STEPS, too.
        MoleSecrets v = Checks.of("retired 0 2");
        v.minutes(1);
        v.tell(0, 0);
        v.minutes(1);
        c.due("of(0, 6)", v.of(0, 6), 0);
    }

    private static void turningRound() {
        // HOME and END are one cell: its WAY is the other one ahead of the STEP, and again behind it.
        MoleSecrets x = Checks.of("mole 3 3; master 4 4");
        x.minutes(1);
        c.due("of(0, 4)", x.of(0, 4), 1);
        c.due("of(1, 4)", x.of(1, 4), 0);
        x.minutes(1);
        c.due("of(1, 4)", x.of(1, 4), 1);
        // On its WAY to its END, it passes its HOME without turning.
        MoleSecrets y = Checks.of("digger 1 2");
        y.set(0, 1, 0);
        c.path(y, 0, 0, 1, 2, 1, 2);
        y.set(0, 4, 0);
        y.set(0, 1, 3);
        c.path(y, 0, 3, 2, 1, 2);
        MoleSecrets z = Checks.of("digger 0 2");
        z.minutes(2);
        c.due("of(0, 4)", z.of(0, 4), 0);
        z.minutes(2);
        c.due("of(0, 4)", z.of(0, 4), 1);
    }

    private static void pickingUp() {
        MoleSecrets x = Checks.of("digger 0 3; digger 0 3; secret 5 0; secret 2 0; secret 4 0; secret 1 2");
        x.minutes(1);
        c.due("of(0, 6)", x.of(0, 6), 2);
        c.due("of(1, 6)", x.of(1, 6), 4);
        c.due("where(5)", x.where(5), 0);
        x.minutes(2);
        c.due("out of both", x.now(3), 4 | 16);
        c.due("where(1), passed by", x.where(1), 2);
        x.minutes(1);
        c.due("of(0, 6), on its way home", x.of(0, 6), 1);
        c.due("of(1, 6)", x.of(1, 6), -1);
        x.minutes(3);
        c.due("of(1, 6)", x.of(1, 6), 5);
        // AT its END it takes nothing, whichever way it goes.
        MoleSecrets y = Checks.of("mole 0 1; secret 0 1; dug 0; dug 1");
        c.due("on(0, 200, 2)", y.on(0, 200, 2), -1);
        c.due("then(0, 200)", y.then(0, 200), 1);
        // It takes one up between two STEPS.
        MoleSecrets z = Checks.of("master 0 18; secret 3 6");
        z.minutes(1);
        c.due("of(0, 6)", z.of(0, 6), 3);
        // One laid down at an END by tell is free to be taken by another.
        MoleSecrets w = Checks.of("mole 0 1; mole 1 2; secret 0 1");
        w.minutes(1);
        c.due("of(0, 6)", w.of(0, 6), -1);
        c.due("of(1, 6)", w.of(1, 6), 0);
    }

    private static void bringingOut() {
        MoleSecrets x = Checks.of("carrier 0 5; secret 0 0");
        x.minutes(1);
        c.due("of(0, 6)", x.of(0, 6), 0);
        // AT its END ahead of the first STEP: it is out there; the STEPS were found out ahead of that.
        x.set(0, 3, 0);
        x.set(0, 2, 2);
        x.set(0, 4, 0);
        x.cell(1, 0, 1);
        x.cell(2, 0, 1);
        c.due("on(0, 1, 0)", x.on(0, 1, 0), 2);
        c.due("minutes(1)", x.minutes(1), 1);
        c.due("cellOf(0, 1)", x.cellOf(0, 1), 1);
        c.due("of(0, 5)", x.of(0, 5), 17);
        c.due("of(0, 6)", x.of(0, 6), -1);
        c.due("of(0, 4)", x.of(0, 4), 1);
        c.due("where(0)", x.where(0), -3);
    }

    private static void oneBehindTheOther() {
        // What 0 digs, 1 finds dug in the same MINUTE; what 1 digs, 0 finds dug in the next one.
        MoleSecrets x = Checks.of("mole 0 2; mole 0 2");
        c.path(x, 1, 0, 1, 1, 2);
        c.path(x, 0, 0, 0, 1, 2);
        c.due("on(0, 3, 1)", x.on(0, 3, 1), 2);
        c.due("on(1, 3, 1)", x.on(1, 3, 1), 2);
    }

    private static void most() {
        MoleSecrets x = Checks.of("mole 0 1; secret 0 0; secret 1 0");
        x.set(0, 5, 9998);
        x.cell(1, 1, 98);
        x.minutes(2);
        c.due("of(0, 5)", x.of(0, 5), 9999);
        c.due("cellOf(1, 1)", x.cellOf(1, 1), 99);
        x.minutes(4);
        c.due("now(3)", x.now(3), 3);
        c.due("of(0, 5)", x.of(0, 5), 9999);
        c.due("cellOf(1, 1)", x.cellOf(1, 1), 99);
        MoleSecrets y = Checks.of("mole 0 1; secret 0 0; dug 1");
        y.set(0, 5, 9990);
        y.minutes(1);
        c.due("of(0, 5)", y.of(0, 5), 9999);
    }

    private static void minutes() {
        MoleSecrets x = Checks.of("digger 0 3; digger 6 8; secret 5 0; secret 1 6; secret 0 20");
        c.due("minutes(1)", x.minutes(1), 0);
        c.due("minutes(1)", x.minutes(1), 2);
        c.due("minutes(100)", x.minutes(100), 34);
        c.due("now(0)", x.now(0), 102);
        c.due("minutes(0)", x.minutes(0), Checks.BEYOND);
        c.due("minutes(-1)", x.minutes(-1), Checks.BEYOND);
        c.due("minutes(101)", x.minutes(101), Checks.BEYOND);
        for (int far : Checks.FAR_OFF) {
            c.due("minutes(" + far + ")", x.minutes(far), Checks.BEYOND);
        }
        c.due("now(0)", x.now(0), 102);
    }

    /** Only after more calls than are promised; then it still answers as the document says. */
    private static void lastMinute() {
        MoleSecrets x = new MoleSecrets();
        for (int i = 0; i < 999; i++) {
            x.minutes(100);
        }
        c.due("minutes(100)", x.minutes(100), Checks.STATE);
        c.due("minutes(101)", x.minutes(101), Checks.BEYOND);
        c.due("minutes(99)", x.minutes(99), 0);
        c.due("minutes(1)", x.minutes(1), Checks.STATE);
        c.due("now(0)", x.now(0), 99999);
        c.due("status(4)", x.status(4), 2);
    }

    private static void ahead() {
        MoleSecrets x = Checks.of("digger 0 3; secret 5 0; retired 6 8; dug 7; secret 4 6; hurrier 29 2; secret 0 29");
        String was = Checks.state(x);
        for (int n = 0; n <= 200; n += 50) {
            MoleSecrets y = Checks.of("digger 0 3; secret 5 0; retired 6 8; dug 7; secret 4 6; hurrier 29 2; secret 0 29");
            for (int gone = 0; gone < n; gone += 50) {
                y.minutes(50);
            }
            for (int mole = 0; mole < 3; mole++) {
                c.due("on(" + mole + ", " + n + ", 0)", x.on(mole, n, 0), y.of(mole, 1));
                c.due("on(" + mole + ", " + n + ", 1)", x.on(mole, n, 1), y.of(mole, 5));
                c.due("on(" + mole + ", " + n + ", 2)", x.on(mole, n, 2), y.of(mole, 6));
            }
            for (int secret = 0; secret < 6; secret++) {
                c.due("then(" + secret + ", " + n + ")", x.then(secret, n), y.where(secret));
            }
        }
        for (int secret = 0; secret < 6; secret++) {
            x.out(secret);
        }
        x.dug(17);
        x.comes(0, 17);
        c.same("a look AHEAD", Checks.state(x), was);
    }

    private static void outDugComes() {
        MoleSecrets x = Checks.of("digger 0 3; secret 5 0; secret 4 0");
        c.due("out(5)", x.out(5), 9);
        c.due("out(4)", x.out(4), 3);
        c.due("out(0)", x.out(0), Checks.NONE);
        c.due("dug(0)", x.dug(0), 6);
        c.due("dug(3)", x.dug(3), 3);
        c.due("dug(4)", x.dug(4), Checks.NONE);
        c.due("comes(0, 0)", x.comes(0, 0), 0);
        c.due("comes(0, 2)", x.comes(0, 2), 2);
        c.due("comes(0, 4)", x.comes(0, 4), Checks.NONE);
        x.minutes(3);
        c.due("out(4)", x.out(4), 0);
        c.due("dug(3)", x.dug(3), 0);
        c.due("comes(0, 3)", x.comes(0, 3), 0);
        c.due("comes(0, 0)", x.comes(0, 0), 3);
        // A cell passed between two STEPS is none that it is AT as a MINUTE ends.
        MoleSecrets y = Checks.of("master 0 12; dug 0; dug 6; dug 12");
        c.due("comes(0, 12)", y.comes(0, 12), 1);
        c.due("comes(0, 6)", y.comes(0, 6), Checks.NONE);
        edgeOf200();
    }

    /** A RETIRED one on a round of 18 cells, one in 3 MINUTES, fetches four secrets one by one. */
    private static void edgeOf200() {
        for (int minute = 0; minute <= 2; minute++) {
            MoleSecrets x = new MoleSecrets();
            for (int i = 0; i < minute; i++) {
                x.minutes(1);
            }
            for (int cell = 0; cell < 30; cell++) {
                x.cell(cell, 0, 1);
            }
            x.mole(3, 0, 29);
            x.set(0, 1, 4);
            x.set(0, 4, 0);
            for (int secret = 0; secret < 4; secret++) {
                x.tell(secret, 0);
            }
            // 4 STEPS to its HOME, 9 to its END, 3 rounds: 67 STEPS, the first in the next MINUTE that 3 divides.
            int waits = minute == 0 ? 0 : 3 - minute;
            int last = waits + 3 * 66 + 1;
            c.due("out(0) from " + minute, x.out(0), waits + 3 * 12 + 1);
            c.due("out(3) from " + minute, x.out(3), last <= 200 ? last : Checks.NONE);
        }
    }

    private static void wrong() {
        MoleSecrets x = Checks.of("mole 0 1; secret 0 0");
        int[][] on = {{-1, 0, 0}, {1, 0, 0}, {0, -1, 0}, {0, 201, 0}, {0, 0, -1}, {0, 0, 3}};
        for (int[] w : on) {
            c.due("on(" + w[0] + ", " + w[1] + ", " + w[2] + ")", x.on(w[0], w[1], w[2]), Checks.BEYOND);
        }
        int[][] then = {{-1, 0}, {6, 0}, {0, -1}, {0, 201}};
        for (int[] w : then) {
            c.due("then(" + w[0] + ", " + w[1] + ")", x.then(w[0], w[1]), Checks.BEYOND);
        }
        int[][] comes = {{-1, 0}, {1, 0}, {0, -1}, {0, 30}};
        for (int[] w : comes) {
            c.due("comes(" + w[0] + ", " + w[1] + ")", x.comes(w[0], w[1]), Checks.BEYOND);
        }
        c.due("out(-1)", x.out(-1), Checks.BEYOND);
        c.due("out(6)", x.out(6), Checks.BEYOND);
        c.due("dug(-1)", x.dug(-1), Checks.BEYOND);
        c.due("dug(30)", x.dug(30), Checks.BEYOND);
        for (int far : Checks.FAR_OFF) {
            c.due("on(" + far + ", 0, 0)", x.on(far, 0, 0), Checks.BEYOND);
            c.due("on(0, " + far + ", 0)", x.on(0, far, 0), Checks.BEYOND);
            c.due("on(0, 0, " + far + ")", x.on(0, 0, far), Checks.BEYOND);
            c.due("then(" + far + ", 0)", x.then(far, 0), Checks.BEYOND);
            c.due("then(0, " + far + ")", x.then(0, far), Checks.BEYOND);
            c.due("comes(" + far + ", 0)", x.comes(far, 0), Checks.BEYOND);
            c.due("comes(0, " + far + ")", x.comes(0, far), Checks.BEYOND);
            c.due("out(" + far + ")", x.out(far), Checks.BEYOND);
            c.due("dug(" + far + ")", x.dug(far), Checks.BEYOND);
        }
    }
}
