/** Promises 19 to 24: kind, lead, dig, leave, dismiss, richest. */
public final class BestTest {
    private static final Checks c = new Checks("BestTest");

    public static void main(String[] args) {
        kind();
        lead();
        dig();
        leave();
        leaveWithin60();
        dismiss();
        richest();
        nothingChanges();
        wrong();
        c.end();
    }

    private static MoleSecrets allDug() {
        MoleSecrets x = new MoleSecrets();
        for (int cell = 0; cell < 30; cell++) {
            x.cell(cell, 0, 1);
        }
        return x;
    }

    private static void kind() {
        // Through earth: MOLE 10, DIGGER 5, CARRIER 6, RETIRED never, MASTER 3, HURRIER 4 MINUTES.
        c.due("kind(0, 0) in earth", Checks.of("mole 0 5; secret 0 0").kind(0, 0), 4);
        // By tunnel: 5, 5, 3, 13, 3, 2.
        MoleSecrets x = allDug();
        x.mole(0, 0, 5);
        x.tell(3, 0);
        c.due("kind(0, 3) by tunnel", x.kind(0, 3), 5);
        c.due("kind(0, 2), not told", x.kind(0, 2), 0);
        // One cell off: all at once; of several the least.
        MoleSecrets y = Checks.of("hurrier 0 1; secret 0 0; dug 1");
        c.due("kind(0, 0), all alike", y.kind(0, 0), 0);
        y.minutes(1);
        c.due("kind(0, 0), out", y.kind(0, 0), 0);
        // Two cells off by earth: MOLE 4, DIGGER 2, CARRIER 3, MASTER 1, HURRIER 2.
        c.due("kind(0, 0), two off", Checks.of("retired 0 2; secret 0 0").kind(0, 0), 4);
        // One off by earth: MOLE 2, DIGGER 1, ..: the least of those with 1 is DIGGER.
        c.due("kind(0, 0), one off", Checks.of("retired 0 1; secret 0 0").kind(0, 0), 1);
        // By out(), whoever brings it: the other one does, whatever this one is.
        kindWithin200();
        c.due("kind(1, 0), another's", Checks.of("digger 0 1; mole 20 29; secret 0 0").kind(1, 0), 0);
    }

    /** Only one that goes by ROWS ahead of COLUMNS takes one of five secrets off a RETIRED one's HOME. */
    private static void kindWithin200() {
        for (int minute = 1; minute <= 2; minute++) {
            MoleSecrets x = allDug();
            x.minutes(minute);
            x.mole(3, 0, 29);
            x.set(0, 1, 4);
            x.set(0, 4, 0);
            x.mole(0, 28, 1);
            x.set(1, 1, 6);
            for (int secret = 0; secret < 5; secret++) {
                x.tell(secret, 0);
            }
            // With one taken off, the last is out after 201 (MINUTE 1) or 200 MINUTES (MINUTE 2).
            c.due("kind(1, 4)", x.kind(1, 4), minute == 1 ? 0 : 1);
            x.turn(1, 1);
            c.due("out(4)", x.out(4), minute == 1 ? Checks.NONE : 200);
        }
    }

    private static void lead() {
        MoleSecrets x = Checks.of("digger 0 29; secret 0 0; secret 1 2");
        c.due("lead(0, 1)", x.lead(0, 1), 1);
        c.due("lead(0, 8)", x.lead(0, 8), 1);
        c.due("lead(0, 9)", x.lead(0, 9), 3);
        c.due("lead(0, 60)", x.lead(0, 60), 3);
        MoleSecrets y = Checks.of("mole 7 9; mole 3 4");
        c.due("lead(0, 60) without secrets", y.lead(0, 60), 0);
        // A MOLE needs 2 MINUTES for the first cell of earth, so in 1 only a tunnel will do.
        MoleSecrets z = Checks.of("mole 8 8; secret 5 8; dug 14");
        c.due("lead(0, 1)", z.lead(0, 1), 14);
        c.due("lead(0, 2)", z.lead(0, 2), 2);
    }

    private static void dig() {
        MoleSecrets x = Checks.of("mole 0 5");
        c.due("dig(1)", x.dig(1), 1);
        c.due("dig(2)", x.dig(2), 0);
        c.due("dig(3)", x.dig(3), 1);
        x.cell(0, 0, 1);
        c.due("dig(2), 0 being dug", x.dig(2), 1);
        c.due("dig(60) without moles", new MoleSecrets().dig(60), 0);
        MoleSecrets y = allDug();
        c.due("dig(1), all dug", y.dig(1), Checks.NONE);
        y.cell(29, 0, 0);
        c.due("dig(1), one earth", y.dig(1), 29);
    }

    private static void leave() {
        MoleSecrets x = Checks.of("digger 0 3");
        c.due("leave(0)", x.leave(0), 0);
        Checks.play(x, "digger 20 21");
        c.due("leave(0)", x.leave(0), 20);
        // From one who carries it, and from where it is out, it may be led as well.
        x.tell(0, 20);
        x.set(1, 3, 29);
        x.minutes(1);
        c.due("of(1, 6)", x.of(1, 6), 0);
        c.due("leave(0), carried", x.leave(0), 1);
        x.tell(1, 1);
        x.minutes(2);
        c.due("where(1)", x.where(1), -3);
        x.tell(0, -1);
        // The second one, who carries nothing now, is one cell off its END; the first has just turned at its own.
        c.due("of(1, 1)", x.of(1, 1), 28);
        c.due("leave(1), out", x.leave(1), 28);
        c.due("leave(0) without moles", new MoleSecrets().leave(0), Checks.NONE);
        c.due("leave(0), HOME and END one cell", Checks.of("mole 3 3").leave(0), Checks.NONE);
    }

    private static void leaveWithin60() {
        // A RETIRED one, one STEP in 3 MINUTES, brings out what it has, and comes again by a round of 18 STEPS.
        MoleSecrets x = allDug();
        x.mole(3, 0, 29);
        x.tell(0, 0);
        x.minutes(1);
        x.set(0, 1, 27);
        // MINUTE 1: the 20th STEP is made as the 60th MINUTE ends.
        c.due("leave(1), 60 off", x.leave(1), 0);
        x.minutes(2);
        x.set(0, 1, 26);
        // MINUTE 3: the 21st STEP is made as the 61st MINUTE ends.
        c.due("leave(1), 61 off", x.leave(1), Checks.NONE);
        x.set(0, 1, 27);
        c.due("leave(1), 58 off", x.leave(1), 0);
    }

    private static void dismiss() {
        MoleSecrets x = Checks.of("digger 6 11; mole 0 5");
        c.due("dismiss(3)", x.dismiss(3), 1);
        c.due("dismiss(4), alike", x.dismiss(4), 0);
        c.due("dismiss(1)", x.dismiss(1), 1);
        // HANDS that it has stay among those of all.
        MoleSecrets y = Checks.of("retired 0 5; digger 6 11");
        y.set(0, 5, 5000);
        c.due("dismiss(3)", y.dismiss(3), 1);
        // It picks up nothing: without 0, 1 brings it out for 10.
        MoleSecrets z = Checks.of("retired 0 1; mole 0 1; dug 1; secret 0 0");
        c.due("dismiss(1)", z.dismiss(1), 1);
        // It brings nothing out: without 0, only 1 is paid for a cell.
        MoleSecrets w = Checks.of("mole 0 5; digger 6 11; secret 0 0");
        w.minutes(1);
        w.set(0, 3, 0);
        c.due("dismiss(1)", w.dismiss(1), 0);
        c.due("dismiss(60) of one", Checks.of("mole 0 5").dismiss(60), 0);
        c.due("dismiss(1) of nobody", new MoleSecrets().dismiss(1), Checks.NONE);
        c.due("dismiss(0) of nobody", new MoleSecrets().dismiss(0), Checks.BEYOND);
    }

    private static void richest() {
        MoleSecrets x = Checks.of("digger 6 11; mole 0 5; digger 12 17");
        c.due("richest(0)", x.richest(0), 0);
        c.due("richest(1)", x.richest(1), 1);
        c.due("richest(2), alike", x.richest(2), 0);
        c.due("richest(200)", x.richest(200), 1);
        x.set(2, 5, 9999);
        c.due("richest(0)", x.richest(0), 2);
        c.due("richest(0) of nobody", new MoleSecrets().richest(0), Checks.NONE);
        c.due("richest(201) of nobody", new MoleSecrets().richest(201), Checks.BEYOND);
    }

    private static void nothingChanges() {
        MoleSecrets x = Checks.of("digger 6 11; mole 0 5; hurrier 12 17; secret 0 0; secret 1 12; secret 2 8");
        x.minutes(2);
        x.image();
        String was = Checks.state(x);
        x.kind(2, 1);
        x.lead(0, 60);
        x.dig(60);
        x.leave(1);
        x.dismiss(60);
        x.richest(200);
        c.same("what is best", Checks.state(x), was);
        x.undo();
        c.same("undo()", Checks.state(x), was);
    }

    private static void wrong() {
        MoleSecrets x = Checks.of("mole 0 5");
        int[][] kind = {{-1, 0}, {1, 0}, {0, -1}, {0, 6}};
        for (int[] w : kind) {
            c.due("kind(" + w[0] + ", " + w[1] + ")", x.kind(w[0], w[1]), Checks.BEYOND);
        }
        int[][] lead = {{-1, 1}, {1, 1}, {0, 0}, {0, 61}};
        for (int[] w : lead) {
            c.due("lead(" + w[0] + ", " + w[1] + ")", x.lead(w[0], w[1]), Checks.BEYOND);
        }
        for (int n : new int[] {-1, 0, 61, Integer.MIN_VALUE, Integer.MAX_VALUE}) {
            c.due("dig(" + n + ")", x.dig(n), Checks.BEYOND);
            c.due("dismiss(" + n + ")", x.dismiss(n), Checks.BEYOND);
            c.due("lead(0, " + n + ")", x.lead(0, n), Checks.BEYOND);
            c.due("lead(" + (n == 0 ? 1 : n) + ", 1)", x.lead(n == 0 ? 1 : n, 1), Checks.BEYOND);
        }
        for (int n : new int[] {-1, 201, Integer.MIN_VALUE, Integer.MAX_VALUE}) {
            c.due("richest(" + n + ")", x.richest(n), Checks.BEYOND);
            c.due("leave(" + n + ")", x.leave(n), Checks.BEYOND);
            c.due("kind(" + n + ", 0)", x.kind(n, 0), Checks.BEYOND);
            c.due("kind(0, " + n + ")", x.kind(0, n), Checks.BEYOND);
        }
        c.due("leave(6)", x.leave(6), Checks.BEYOND);
    }
}
