import java.io.IOException;

/** Boundaries of the terms: a STEP, and how a MINUTE goes. */
public final class EdgesOfStepsTest {
    private static Edges e;

    public static void main(String[] args) throws IOException {
        e = new Edges("EdgesOfStepsTest");
        towardsItsGoal();
        asLongAsTheyDiffer();
        beforeEarth();
        handsForACell();
        noStepIfItIsThere();
        molesByNumbers();
        stepsAreFoundOutAhead();
        aheadOfTheFirstAndBehindEach();
        heapsAtMost99();
        handsForASecret();
        atItsEndCarrying();
        theLeastSuchOne();
        neverAtItsEnd();
        itsWayIsTheOtherOne();
        minuteIsOneMore();
        e.wholeOfTerms("(Others as the KIND above.)", "THE TEXT of a SHIRE, from");
        e.end();
    }

    private static void towardsItsGoal() {
        e.at(Doc.TERMS, "it goes to the next cell towards the one to which its WAY leads (END or HOME)");
        MoleSecrets x = Everything.tunnelOf(8, 20, 0);
        x.set(0, 1, 14);
        e.due("on(0, 1, 0) to its END", x.on(0, 1, 0), 20);
        x.set(0, 4, 0);
        e.due("on(0, 1, 0) to its HOME", x.on(0, 1, 0), 8);
        // It passes the one to which its WAY doesn't lead.
        x.set(0, 1, 26);
        e.path(x, 0, 26, 20, 14, 8, 14, 20, 14);
        // All four sides.
        int[][] sides = {{14, 13}, {14, 15}, {14, 8}, {14, 20}};
        for (int[] side : sides) {
            for (int kind = 0; kind < 2; kind++) {
                e.due("on(0, 1, 0) to " + side[1], Everything.tunnelOf(side[0], side[1], kind).on(0, 1, 0), side[1]);
            }
        }
    }

    private static void asLongAsTheyDiffer() {
        e.at(Doc.TERMS, "one that TURNS FIRST by a ROW as long as the ROWS differ, others by a COLUMN as long as the COLUMNS differ;"
            + " else by the other one.");
        e.path(Everything.tunnelOf(0, 14, 1), 0, 0, 6, 12, 13, 14, 8, 2, 1, 0, 6);
        e.path(Everything.tunnelOf(0, 14, 0), 0, 0, 1, 2, 8, 14, 13, 12, 6, 0, 1);
        e.path(Everything.tunnelOf(29, 15, 1), 0, 29, 23, 17, 16, 15);
        e.path(Everything.tunnelOf(29, 15, 0), 0, 29, 28, 27, 21, 15);
        // In one ROW, or in one COLUMN, both go the same way.
        for (int kind = 0; kind < 2; kind++) {
            e.path(Everything.tunnelOf(12, 15, kind), 0, 12, 13, 14, 15, 14);
            e.path(Everything.tunnelOf(3, 21, kind), 0, 3, 9, 15, 21, 15);
        }
    }

    private static void beforeEarth() {
        e.at(Doc.TERMS, "If that next cell is earth: by what it DIGS; dug, it is DUG from then on");
        MoleSecrets x = Everything.one(1, 0, 2);
        x.minutes(1);
        e.due("cellOf(1, 0)", x.cellOf(1, 0), 1);
        e.due("cellOf(0, 0), where it was", x.cellOf(0, 0), 0);
        e.due("cellOf(2, 0), where it will be", x.cellOf(2, 0), 0);
        x.minutes(3);
        e.due("now(1)", x.now(1), 7);
        e.due("of(0, 5)", x.of(0, 5), 3);
        x.minutes(100);
        e.due("now(1), later", x.now(1), 7);
        e.due("of(0, 5), paid but once", x.of(0, 5), 3);
        // The cell it is AT may be earth; only the next one is asked.
        MoleSecrets y = Everything.one(0, 0, 2);
        y.cell(1, 0, 1);
        e.due("on(0, 1, 0) from earth to tunnel", y.on(0, 1, 0), 1);
        e.due("on(0, 1, 1)", y.on(0, 1, 1), 0);
    }

    private static void digging(int kind, int hands, int due) {
        MoleSecrets x = Everything.one(kind, 0, 5);
        x.set(0, 5, hands);
        x.minutes(1);
        e.due("of(0, 5) of " + kind + " with " + hands, x.of(0, 5), due);
        e.due("cellOf(1, 0)", x.cellOf(1, 0), 1);
    }

    private static void handsForACell() {
        e.at(Doc.TERMS, "HANDS are what it CHARGES for that more (9999 at most).");
        digging(0, 0, 2);
        digging(0, 9996, 9998);
        digging(0, 9997, 9999);
        digging(0, 9998, 9999);
        digging(0, 9999, 9999);
        digging(1, 9997, 9998);
        digging(1, 9998, 9999);
        digging(1, 9999, 9999);
        digging(2, 9997, 9999);
        digging(2, 9998, 9999);
    }

    private static void noStepIfItIsThere() {
        e.at(Doc.TERMS, "No STEP if it is there.");
        for (int kind = 0; kind < 6; kind++) {
            MoleSecrets x = Everything.one(kind, 0, 0);
            e.due("on(0, 200, 0) of " + kind, x.on(0, 200, 0), 0);
            e.due("on(0, 200, 1) of " + kind, x.on(0, 200, 1), 0);
            x.minutes(100);
            e.due("now(1) of " + kind, x.now(1), 0);
            MoleSecrets last = Everything.one(kind, 29, 29);
            last.minutes(100);
            e.due("of(0, 1) of " + kind, last.of(0, 1), 29);
            e.due("now(1) of " + kind, last.now(1), 0);
        }
        // From elsewhere it comes there, and stays.
        MoleSecrets y = Everything.tunnelOf(3, 3, 0);
        y.set(0, 1, 1);
        e.path(y, 0, 1, 2, 3, 3, 3);
    }

    private static void molesByNumbers() {
        e.at(Doc.TERMS, "A MINUTE goes: MOLES by numbers");
        // The first takes the least; the last of six takes the last.
        MoleSecrets x = Everything.tunnelOf(0, 5, 0, 0, 0, 0, 0, 0);
        for (int secret = 0; secret < 6; secret++) {
            x.tell(secret, 0);
        }
        x.minutes(1);
        for (int mole = 0; mole < 6; mole++) {
            e.due("of(" + mole + ", 6)", x.of(mole, 6), mole);
        }
        // What 0 digs is dug for 1 in the same MINUTE; what 1 digs is dug for 0 in the next.
        MoleSecrets y = Everything.one(0, 0, 3);
        y.mole(0, 0, 3);
        y.minutes(1);
        e.due("of(0, 1)", y.of(0, 1), 0);
        e.due("of(1, 1)", y.of(1, 1), 1);
        e.due("of(0, 5)", y.of(0, 5), 2);
        e.due("of(1, 5)", y.of(1, 5), 0);
        y.minutes(1);
        e.due("of(0, 1)", y.of(0, 1), 1);
        e.due("of(1, 5)", y.of(1, 5), 2);
        y.minutes(1);
        e.due("of(0, 1), where 1 dug", y.of(0, 1), 2);
        e.due("of(0, 5)", y.of(0, 5), 2);
        MoleSecrets nobody = new MoleSecrets();
        e.due("minutes(100), nobody there", nobody.minutes(100), 0);
        e.due("now(0)", nobody.now(0), 100);
    }

    private static void stepsAreFoundOutAhead() {
        e.at(Doc.TERMS, "how many STEPS it has is found out; then,");
        // What is lifted ahead of the first STEP gives no STEP more in that MINUTE.
        MoleSecrets x = Everything.tunnelOf(0, 5, 2);
        x.tell(0, 0);
        e.path(x, 0, 0, 1, 3, 5, 4);
        MoleSecrets y = Everything.tunnelOf(0, 29, 5);
        y.tell(0, 0);
        e.path(y, 0, 0, 2, 5, 23, 27, 25);
        // What is out ahead of the first STEP takes none away.
        MoleSecrets z = Everything.tunnelOf(0, 5, 2);
        z.tell(0, 0);
        z.minutes(1);
        z.set(0, 3, 1);
        z.set(0, 2, 4);
        z.minutes(1);
        e.due("where(0)", z.where(0), -3);
        e.due("of(0, 1), two STEPS on", z.of(0, 1), 3);
        e.due("of(0, 7)", z.of(0, 7), 1);
    }

    private static void aheadOfTheFirstAndBehindEach() {
        e.at(Doc.TERMS, "ahead of the first STEP and behind each");
        // Ahead of the first: lifted where it began.
        MoleSecrets x = Everything.tunnelOf(0, 24, 4);
        x.tell(3, 0);
        x.minutes(1);
        e.due("of(0, 6), ahead of the first", x.of(0, 6), 3);
        // Behind the first of two, and behind the second.
        for (int cell = 6; cell <= 12; cell += 6) {
            MoleSecrets y = Everything.tunnelOf(0, 24, 4);
            y.tell(3, cell);
            y.minutes(1);
            e.due("of(0, 6), lifted at " + cell, y.of(0, 6), 3);
        }
        MoleSecrets far = Everything.tunnelOf(0, 24, 4);
        far.tell(3, 18);
        far.minutes(1);
        e.due("of(0, 6), nothing lifted at 18", far.of(0, 6), -1);
        // Out behind the first STEP, back behind the second.
        MoleSecrets z = Everything.tunnelOf(0, 6, 4);
        z.tell(3, 0);
        e.due("minutes(1)", z.minutes(1), 8);
        e.due("of(0, 1)", z.of(0, 1), 0);
        e.due("of(0, 4), turned at both", z.of(0, 4), 1);
    }

    private static void heap(int heaps, int due) {
        MoleSecrets x = Everything.tunnelOf(0, 1, 0);
        x.cell(1, 1, heaps);
        x.cell(0, 1, 50);
        x.tell(0, 0);
        x.minutes(1);
        e.due("where(0)", x.where(0), -3);
        e.due("cellOf(1, 1) with " + heaps, x.cellOf(1, 1), due);
        e.due("cellOf(0, 1)", x.cellOf(0, 1), 50);
    }

    private static void heapsAtMost99() {
        e.at(Doc.TERMS, "HEAPS there 1 more (99 at most)");
        heap(0, 1);
        heap(97, 98);
        heap(98, 99);
        heap(99, 99);
    }

    private static void bringing(int kind, int hands, int due) {
        MoleSecrets x = Everything.tunnelOf(0, 1, kind);
        x.set(0, 5, hands);
        x.tell(5, 0);
        e.due("minutes(1)", x.minutes(1), 32);
        e.due("of(0, 5) of " + kind + " with " + hands, x.of(0, 5), due);
    }

    private static void handsForASecret() {
        e.at(Doc.TERMS, "HANDS what it CHARGES more (9999 at most)");
        bringing(0, 9988, 9998);
        bringing(0, 9989, 9999);
        bringing(0, 9990, 9999);
        bringing(0, 9999, 9999);
        bringing(2, 9983, 9998);
        bringing(2, 9984, 9999);
        bringing(2, 9985, 9999);
        bringing(3, 9999, 9999);
        bringing(4, 9984, 9998);
        bringing(4, 9985, 9999);
        bringing(4, 9986, 9999);
        bringing(5, 9968, 9998);
        bringing(5, 9969, 9999);
        bringing(5, 9970, 9999);
    }

    private static void atItsEndCarrying() {
        e.at(Doc.TERMS, "(a) AT its END, CARRYING: the secret is out");
        MoleSecrets x = Everything.tunnelOf(0, 5, 0);
        x.tell(2, 0);
        x.minutes(4);
        e.due("where(2), one cell off", x.where(2), -2);
        e.due("now(2)", x.now(2), 0);
        e.due("minutes(1)", x.minutes(1), 4);
        e.due("cellOf(5, 1)", x.cellOf(5, 1), 1);
        e.at(Doc.TERMS, "it CARRIES nothing; (b)");
        e.due("of(0, 6)", x.of(0, 6), -1);
        e.due("now(4)", x.now(4), 0);
        // On its WAY to its HOME, too, if it comes to its END.
        MoleSecrets y = Everything.tunnelOf(0, 5, 0);
        y.tell(2, 0);
        y.minutes(1);
        y.set(0, 4, 0);
        y.set(0, 2, 29);
        y.set(0, 3, 2);
        y.minutes(1);
        e.due("where(2)", y.where(2), -3);
        e.due("of(0, 4), to its HOME still", y.of(0, 4), 0);
        // CARRYING nothing, AT its END: no heap, no pay.
        MoleSecrets z = Everything.tunnelOf(0, 1, 0);
        z.minutes(5);
        e.due("now(2)", z.now(2), 0);
        e.due("of(0, 5)", z.of(0, 5), 0);
        // AT its HOME, CARRYING: it stays with it.
        MoleSecrets w = Everything.tunnelOf(0, 5, 0);
        w.tell(2, 1);
        w.set(0, 1, 1);
        w.set(0, 4, 0);
        w.minutes(1);
        e.due("of(0, 1)", w.of(0, 1), 0);
        e.due("of(0, 6)", w.of(0, 6), 2);
    }

    private static void theLeastSuchOne() {
        e.at(Doc.TERMS, "(b) CARRYING nothing, and a secret LIES where it is AT: it CARRIES the least such one");
        MoleSecrets x = Everything.tunnelOf(0, 5, 0);
        x.tell(5, 0);
        x.tell(3, 0);
        x.tell(4, 0);
        x.tell(0, 1);
        x.minutes(1);
        e.due("of(0, 6)", x.of(0, 6), 3);
        e.due("cellOf(0, 3)", x.cellOf(0, 3), 48);
        e.due("where(0), passed by CARRYING", x.where(0), 1);
        x.tell(3, -1);
        x.minutes(1);
        e.due("of(0, 6), behind a STEP only", x.of(0, 6), 0);
        // One that isn't told, is carried or is out, LIES nowhere.
        MoleSecrets y = Everything.tunnelOf(0, 1, 0, 0);
        y.tell(0, 0);
        y.minutes(1);
        e.due("now(3)", y.now(3), 1);
        e.due("of(1, 6)", y.of(1, 6), -1);
        y.minutes(10);
        e.due("now(3)", y.now(3), 1);
        e.due("now(4)", y.now(4), 0);
    }

    private static void neverAtItsEnd() {
        e.at(Doc.TERMS, "(but never AT its END)");
        MoleSecrets x = Everything.tunnelOf(0, 1, 0);
        x.tell(0, 1);
        e.due("on(0, 1, 2)", x.on(0, 1, 2), -1);
        e.due("then(0, 200)", x.then(0, 200), 1);
        x.set(0, 1, 1);
        e.due("on(0, 1, 2), AT its END at once", x.on(0, 1, 2), -1);
        x.set(0, 4, 0);
        e.due("on(0, 1, 2), on its WAY to its HOME", x.on(0, 1, 2), -1);
        MoleSecrets both = Everything.tunnelOf(4, 4, 0);
        both.tell(0, 4);
        e.due("then(0, 200), HOME and END one cell", both.then(0, 200), 4);
        // Having brought one out, it doesn't lift the next there; one whose END it isn't does.
        MoleSecrets y = Everything.tunnelOf(0, 1, 0);
        y.tell(1, 0);
        y.tell(0, 1);
        y.minutes(1);
        e.due("now(3)", y.now(3), 2);
        e.due("of(0, 6)", y.of(0, 6), -1);
        y.mole(0, 1, 2);
        y.minutes(1);
        e.due("now(3)", y.now(3), 3);
    }

    private static void itsWayIsTheOtherOne() {
        e.at(Doc.TERMS, "(c) if it is AT the cell to which its WAY leads: its WAY is the other one.");
        MoleSecrets x = Everything.tunnelOf(0, 3, 0);
        x.set(0, 1, 3);
        e.due("on(0, 1, 0), AT its END at once", x.on(0, 1, 0), 2);
        x.set(0, 1, 0);
        x.set(0, 4, 0);
        e.due("on(0, 1, 0), AT its HOME at once", x.on(0, 1, 0), 1);
        x.set(0, 4, 1);
        int[] ways = {1, 1, 1, 0, 0, 0, 1, 1, 1, 0};
        int[] cells = {0, 1, 2, 3, 2, 1, 0, 1, 2, 3};
        for (int t = 0; t < ways.length; t++) {
            e.due("of(0, 1) in " + t, x.of(0, 1), cells[t]);
            e.due("of(0, 4) in " + t, x.of(0, 4), ways[t]);
            x.minutes(1);
        }
        // One who turned before earth at its HOME is AT the cell to which its WAY leads then.
        MoleSecrets y = Everything.one(3, 0, 3);
        y.minutes(1);
        e.due("of(0, 4), RETIRED before earth", y.of(0, 4), 1);
        // HOME and END one cell: ahead of the first STEP, and behind each.
        MoleSecrets z = Everything.tunnelOf(3, 3, 0, 4);
        z.minutes(1);
        e.due("of(0, 4), two times", z.of(0, 4), 1);
        e.due("of(1, 4), three times", z.of(1, 4), 0);
    }

    private static void minuteIsOneMore() {
        e.at(Doc.TERMS, "MINUTE is 1 more.");
        MoleSecrets x = Everything.tunnelOf(0, 5, 3, 3);
        x.minutes(1);
        e.due("now(0)", x.now(0), 1);
        // Not 1 more ahead of the last mole of a MINUTE.
        e.due("of(0, 1)", x.of(0, 1), 1);
        e.due("of(1, 1)", x.of(1, 1), 1);
        x.minutes(2);
        e.due("now(0)", x.now(0), 3);
        e.due("of(1, 1)", x.of(1, 1), 1);
        x.minutes(1);
        e.due("of(1, 1)", x.of(1, 1), 2);
    }
}
