import java.io.IOException;

/** Boundaries of the terms: what section 1 holds at first and at most, and what each KIND is; sections 2 and 3. */
public final class EdgesOfTermsTest {
    private static Edges e;

    public static void main(String[] args) throws IOException {
        e = new Edges("EdgesOfTermsTest");
        minuteAtFirstAndAtMost();
        cells0To29();
        sixInARow();
        dugAndHeapsAtFirst();
        atMostSixMoles();
        kindsUnderKinds();
        wayHandsCarriesAtFirst();
        secrets0To5();
        steps();
        stepsOfRetired();
        digs();
        turnsFirst();
        turnsFirstOfMaster();
        charges();
        e.wholeOfTerms("Sets are told by bits. 1.", "A STEP: it goes");
        ahead();
        aheadOnEachWay();
        sheets0To3();
        e.wholeOfTerms("if it ends too early. ``` 2.", "Ahead of the calls");
        e.end();
    }

    private static void minuteAtFirstAndAtMost() {
        e.at(Doc.TERMS, "MINUTE: 0 at first (99999 at most)");
        MoleSecrets x = new MoleSecrets();
        e.due("now(0) at first", x.now(0), 0);
        // Above 51200 only by more than 512 calls.
        for (int i = 0; i < 999; i++) {
            x.minutes(100);
        }
        x.minutes(98);
        e.due("minutes(2) from 99998", x.minutes(2), Checks.STATE);
        e.due("now(0)", x.now(0), 99998);
        e.due("minutes(1) from 99998", x.minutes(1), 0);
        e.due("now(0)", x.now(0), 99999);
        e.due("minutes(1) from 99999", x.minutes(1), Checks.STATE);
        e.due("now(0)", x.now(0), 99999);
    }

    private static void cells0To29() {
        e.at(Doc.TERMS, "CELLS 0 to 29");
        e.within("cell(v, 0, 1)", Everything::some, (x, v) -> x.cell(v, 0, 1), 0, 0, 29, 0);
        e.within("cellOf(v, 2)", Everything::some, (x, v) -> x.cellOf(v, 2), 0, 0, 29, 0);
    }

    private static void sixInARow() {
        e.at(Doc.TERMS, "6 in a ROW, the ROW of a cell being its quotient by 6, its COLUMN the rest");
        // The last of a ROW and the first of the next are not beside one another.
        e.path(Everything.tunnelOf(5, 6, 0), 0, 5, 4, 3, 2, 1, 0, 6, 7);
        e.path(Everything.tunnelOf(23, 24, 0), 0, 23, 22, 21, 20, 19, 18, 24, 25);
        e.path(Everything.tunnelOf(6, 5, 1), 0, 6, 0, 1, 2, 3, 4, 5, 11);
        // Those beside one another in a COLUMN are 6 apart.
        e.path(Everything.tunnelOf(5, 29, 0), 0, 5, 11, 17, 23, 29, 23, 17, 11, 5);
        e.path(Everything.tunnelOf(24, 0, 1), 0, 24, 18, 12, 6, 0, 6);
    }

    private static void dugAndHeapsAtFirst() {
        e.at(Doc.TERMS, "each DUG (1) or earth (0; at first), with HEAPS (0 to 99; 0 at first)");
        MoleSecrets x = new MoleSecrets();
        for (int cell = 0; cell < 30; cell++) {
            e.due("cellOf(" + cell + ", 0) at first", x.cellOf(cell, 0), 0);
            e.due("cellOf(" + cell + ", 1) at first", x.cellOf(cell, 1), 0);
        }
        e.within("cell(17, 0, v)", Everything::some, (y, v) -> y.cell(17, 0, v), 0, 0, 1, 0);
        e.within("cell(17, 1, v)", Everything::some, (y, v) -> y.cell(17, 1, v), 0, 99, 99, 99);
        x.cell(3, 0, 1);
        e.due("cellOf(3, 0), dug", x.cellOf(3, 0), 1);
        x.cell(3, 1, 99);
        e.due("cellOf(3, 1), 99 at most", x.cellOf(3, 1), 99);
    }

    private static void atMostSixMoles() {
        e.at(Doc.TERMS, "MOLES 0, 1, .. (at most 6) are of KINDS");
        MoleSecrets x = new MoleSecrets();
        for (int mole = 0; mole < 6; mole++) {
            e.due("of(" + mole + ", 0), not there yet", x.of(mole, 0), Checks.BEYOND);
            e.due("mole(3, 29, 0)", x.mole(3, 29, 0), mole);
            e.due("of(" + mole + ", 0)", x.of(mole, 0), 3);
        }
        e.due("mole(3, 29, 0) for a 7th", x.mole(3, 29, 0), Checks.FULL);
        e.due("of(6, 0)", x.of(6, 0), Checks.BEYOND);
        e.due("count(0)", x.count(0), 6);
    }

    private static void kindsUnderKinds() {
        e.at(Doc.TERMS, "0 MOLE, 1 DIGGER under MOLE, 2 CARRIER under MOLE, 3 RETIRED under MOLE, 4 MASTER under DIGGER,"
            + " 5 HURRIER under CARRIER");
        String[] is = {"100000", "110000", "101000", "100100", "110010", "101001"};
        MoleSecrets x = Everything.tunnelOf(0, 5, 0, 1, 2, 3, 4, 5);
        for (int mole = 0; mole < 6; mole++) {
            for (int kind = 0; kind < 6; kind++) {
                long due = is[mole].charAt(kind) == '1' ? 0 : Checks.KIND;
                e.due("as(" + mole + ", " + kind + ")", x.as(mole, kind), due);
            }
        }
    }

    private static void wayHandsCarriesAtFirst() {
        e.at(Doc.TERMS, "a WAY (to its END: 1; at first; or HOME: 0), HANDS (pay: 0 to 9999; 0 at first), and what it CARRIES"
            + " (a secret, or -1: nothing; at first)");
        MoleSecrets x = Everything.one(0, 7, 9);
        e.due("of(0, 1), AT its HOME", x.of(0, 1), 7);
        e.due("of(0, 4) at first", x.of(0, 4), 1);
        e.due("of(0, 5) at first", x.of(0, 5), 0);
        e.due("of(0, 6) at first", x.of(0, 6), -1);
        e.within("set(1, 4, v)", Everything::some, (y, v) -> y.set(1, 4, v), 0, 1, 1, 1);
        e.within("set(1, 5, v)", Everything::some, (y, v) -> y.set(1, 5, v), 0, 9999, 9999, 9999);
        // To its END and to its HOME, from between them.
        MoleSecrets y = Everything.tunnelOf(0, 5, 0);
        y.set(0, 1, 3);
        e.due("on(0, 1, 0), to its END", y.on(0, 1, 0), 4);
        y.set(0, 4, 0);
        e.due("on(0, 1, 0), to its HOME", y.on(0, 1, 0), 2);
        for (int secret = 0; secret < 6; secret += 5) {
            MoleSecrets z = Everything.one(0, 7, 9);
            z.tell(secret, 7);
            z.minutes(1);
            e.due("of(0, 6), a secret", z.of(0, 6), secret);
        }
    }

    private static void secrets0To5() {
        e.at(Doc.TERMS, "SECRETS 0 to 5: each LIES in a cell, or -1: it isn't told yet (at first), -2: it is carried, -3: it is out.");
        e.within("where(v)", Everything::some, (x, v) -> x.where(v), 0, -3, 5, 17);
        e.within("tell(v, 9)", Everything::some, (x, v) -> x.tell(v, 9), 0, -3, 5, 17);
        for (int secret = 0; secret < 6; secret++) {
            MoleSecrets x = Everything.tunnelOf(29, 23, 0);
            e.due("where(" + secret + ") at first", x.where(secret), -1);
            x.tell(secret, 29);
            e.due("where(" + secret + ") told", x.where(secret), 29);
            x.set(0, 3, 17);
            x.minutes(1);
            e.due("where(" + secret + ") carried", x.where(secret), -2);
            x.minutes(1);
            e.due("where(" + secret + ") out", x.where(secret), -3);
        }
    }

    /** Of one who has lifted a secret, and of one who has not: STEPS in a MINUTE that 3 doesn't divide. */
    private static void stepsOf(int kind, int empty, int carrying) {
        MoleSecrets x = Everything.tunnelOf(0, 29, kind);
        x.minutes(1);
        e.due("of(0, 7), CARRYING nothing", x.of(0, 7), empty);
        x.tell(5, x.of(0, 1));
        x.minutes(1);
        e.due("of(0, 6)", x.of(0, 6), 5);
        e.due("of(0, 7), CARRYING", x.of(0, 7), carrying);
        int here = x.of(0, 1);
        int gone = x.on(0, 1, 0);
        e.due("STEPS made", Math.abs(here / 6 - gone / 6) + Math.abs(here % 6 - gone % 6), carrying);
    }

    private static void steps() {
        e.at(Doc.TERMS, "STEPS (how many it has in MINUTE t): MOLE: 1. DIGGER: as MOLE.");
        stepsOf(0, 1, 1);
        stepsOf(1, 1, 1);
        e.at(Doc.TERMS, "CARRIER: as MOLE, and 1, if it CARRIES anything.");
        stepsOf(2, 1, 2);
        e.at(Doc.TERMS, "MASTER: as DIGGER, and 1.");
        stepsOf(4, 2, 2);
        e.at(Doc.TERMS, "HURRIER: as CARRIER, and 1.");
        stepsOf(5, 2, 3);
    }

    private static void stepsOfRetired() {
        e.at(Doc.TERMS, "RETIRED: 1, if t by 3 has no rest, else 0.");
        MoleSecrets x = Everything.tunnelOf(0, 29, 3);
        int[] cells = {0, 6, 6, 6, 12, 12, 12, 18, 18, 18, 24};
        for (int t = 0; t < 10; t++) {
            e.due("of(0, 7) in MINUTE " + t, x.of(0, 7), t % 3 == 0 ? 1 : 0);
            e.due("of(0, 1) in MINUTE " + t, x.of(0, 1), cells[t]);
            x.minutes(1);
        }
        stepsOf(3, 0, 0);
    }

    /** In MINUTE 3, AT the second of three dug cells, before earth. */
    private static void digsOf(int kind, int digs, int at, int way, int dug) {
        MoleSecrets x = new MoleSecrets();
        x.minutes(3);
        x.mole(kind, 0, 5);
        x.set(0, 1, 1);
        x.cell(0, 0, 1);
        x.cell(1, 0, 1);
        x.set(0, 3, 5);
        e.due("of(0, 8)", x.of(0, 8), 1 + digs);
        x.minutes(1);
        e.due("of(0, 1)", x.of(0, 1), at);
        e.due("of(0, 4)", x.of(0, 4), way);
        e.due("now(1)", x.now(1), dug);
    }

    private static void digs() {
        e.at(Doc.TERMS, "DIGS (before earth: 0: it digs, and stays; 1: it digs, and goes there; -1: it doesn't, and its WAY is the"
            + " other one): MOLE: 0. DIGGER: 1. CARRIER: as MOLE. RETIRED: -1. MASTER: as DIGGER. HURRIER: as CARRIER.");
        digsOf(0, 0, 1, 1, 7);
        digsOf(1, 1, 2, 1, 7);
        digsOf(2, 0, 1, 1, 7);
        digsOf(3, -1, 1, 0, 3);
        // With two STEPS the one digs twice, the other digs and then goes there.
        digsOf(4, 1, 3, 1, 15);
        digsOf(5, 0, 2, 1, 7);
        MoleSecrets tunnel = Everything.tunnelOf(0, 5, 3);
        e.due("on(0, 1, 0), before a tunnel", tunnel.on(0, 1, 0), 1);
    }

    private static void turnsFirstOf(int kind, int inEven, int inOdd) {
        MoleSecrets x = Everything.tunnelOf(0, 29, kind);
        for (int row = 0; row < 5; row++) {
            x.set(0, 1, 6 * row + row);
            e.due("of(0, 9) in ROW " + row, x.of(0, 9), row % 2 == 0 ? inEven : inOdd);
        }
    }

    private static void turnsFirst() {
        e.at(Doc.TERMS, "TURNS FIRST (whether it goes by ROWS ahead of COLUMNS): MOLE: no. DIGGER: yes. CARRIER: no. RETIRED: yes.");
        turnsFirstOf(0, 0, 0);
        turnsFirstOf(1, 1, 1);
        turnsFirstOf(2, 0, 0);
        turnsFirstOf(3, 1, 1);
        int[] gone = {1, 6, 1, 6};
        for (int kind = 0; kind < 4; kind++) {
            e.due("on(0, 1, 0) of " + kind, Everything.tunnelOf(0, 29, kind).on(0, 1, 0), gone[kind]);
        }
    }

    private static void turnsFirstOfMaster() {
        e.at(Doc.TERMS, "MASTER: as DIGGER, if the ROW of where it is is even, else no. HURRIER: as CARRIER. CHARGES");
        turnsFirstOf(4, 1, 0);
        turnsFirstOf(5, 0, 0);
        // By a ROW out of ROW 0, by COLUMNS in ROW 1, and where the COLUMNS don't differ by ROWS all the same.
        e.path(Everything.tunnelOf(0, 26, 4), 0, 0, 7, 14, 26);
        e.path(Everything.tunnelOf(24, 2, 4), 0, 24, 19, 14, 2);
        e.path(Everything.tunnelOf(0, 26, 5), 0, 0, 2, 14, 26);
    }

    private static void chargesOf(int kind, int cell, int secret) {
        MoleSecrets x = Everything.one(kind, 0, 1);
        e.due("charges(0, 0)", x.charges(0, 0), cell);
        e.due("charges(0, 1)", x.charges(0, 1), secret);
        x.cell(0, 0, 1);
        x.minutes(4);
        e.due("of(0, 5) for a cell", x.of(0, 5), cell);
        MoleSecrets y = Everything.tunnelOf(0, 1, kind);
        y.tell(0, 0);
        y.minutes(1);
        e.due("of(0, 5) for a secret", y.of(0, 5), secret);
    }

    private static void charges() {
        e.at(Doc.TERMS, "CHARGES (HANDS for a cell dug; for a secret brought out): MOLE: 2; 10.");
        chargesOf(0, 2, 10);
        e.at(Doc.TERMS, "DIGGER: 1; as MOLE.");
        chargesOf(1, 1, 10);
        e.at(Doc.TERMS, "CARRIER: as MOLE; 15.");
        chargesOf(2, 2, 15);
        e.at(Doc.TERMS, "RETIRED: 0; 0.");
        chargesOf(3, 0, 0);
        e.at(Doc.TERMS, "MASTER: as DIGGER; as MOLE, and 4.");
        chargesOf(4, 1, 14);
        e.at(Doc.TERMS, "HURRIER: as CARRIER; as CARRIER, twice that. (Others as the KIND above.)");
        chargesOf(5, 2, 30);
    }

    private static void ahead() {
        e.at(Doc.TERMS, "AHEAD: n MINUTES go on with all as it is; nothing changes.");
        for (Edges.Maker maker : new Edges.Maker[] {Everything::some, Everything::full}) {
            e.onlyLooks("on(2, 200, 0)", maker, x -> x.on(2, 200, 0));
            e.onlyLooks("then(4, 200)", maker, x -> x.then(4, 200));
            e.onlyLooks("out(1)", maker, x -> x.out(1));
            e.onlyLooks("dug(9)", maker, x -> x.dug(9));
            e.onlyLooks("comes(1, 9)", maker, x -> x.comes(1, 9));
            e.onlyLooks("kind(1, 1)", maker, x -> x.kind(1, 1));
            e.onlyLooks("lead(2, 60)", maker, x -> x.lead(2, 60));
            e.onlyLooks("dig(60)", maker, x -> x.dig(60));
            e.onlyLooks("leave(4)", maker, x -> x.leave(4));
            e.onlyLooks("dismiss(60)", maker, x -> x.dismiss(60));
            e.onlyLooks("richest(200)", maker, x -> x.richest(200));
            e.onlyLooks("read(0, 2)", maker, x -> x.read(0, 2));
        }
        // As many MINUTES AHEAD are as many MINUTES that go.
        MoleSecrets x = Everything.full();
        int[] cells = new int[6];
        for (int mole = 0; mole < 6; mole++) {
            cells[mole] = x.on(mole, 100, 0);
        }
        x.minutes(100);
        for (int mole = 0; mole < 6; mole++) {
            e.due("of(" + mole + ", 1) after 100", x.of(mole, 1), cells[mole]);
        }
    }

    /** With all as it is: the last of six goes its own WAY, as the first does. */
    private static void aheadOnEachWay() {
        for (int way = 0; way <= 1; way++) {
            MoleSecrets x = Everything.tunnelOf(0, 5, 0, 0, 0, 0, 0, 0);
            for (int mole = 0; mole < 6; mole++) {
                x.set(mole, 1, 2);
                x.set(mole, 4, way);
            }
            for (int mole = 0; mole < 6; mole++) {
                e.due("on(" + mole + ", 1, 0) with WAY " + way, x.on(mole, 1, 0), way == 1 ? 3 : 1);
            }
        }
    }

    private static void sheets0To3() {
        e.at(Doc.TERMS, "SHEETS 0 to 3 are rows of at most 40 numbers of 8, 16 or 64 bits, or MISSING (at first).");
        MoleSecrets x = new MoleSecrets();
        int[] bits = {8, 16, 64, 8};
        for (int s = 0; s < 4; s++) {
            e.due("write(" + s + ", 0, 0) at first", x.write(s, 0, 0), Checks.MISSING);
            e.due("sheet(" + s + ", " + bits[s] + ", 40)", x.sheet(s, bits[s], 40), 40);
            e.due("write(" + s + ", 39, 1)", x.write(s, 39, 1), 0);
            e.due("write(" + s + ", 40, 1)", x.write(s, 40, 1), Checks.BEYOND);
        }
        e.due("write(-1, 0, 0)", x.write(-1, 0, 0), Checks.BEYOND);
        e.due("write(4, 0, 0)", x.write(4, 0, 0), Checks.BEYOND);
    }
}
