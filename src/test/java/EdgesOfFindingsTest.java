import java.io.IOException;

/** Boundaries of the terms: findings, their order, and that an act that answers one changes nothing but status(). */
public final class EdgesOfFindingsTest {
    private static Edges e;

    public static void main(String[] args) throws IOException {
        e = new Edges("EdgesOfFindingsTest");
        atMost512Calls();
        numbersOfFindings();
        orderOfFindings();
        orderOfFindingsOfSheets();
        nothingChangesInTheShire();
        nothingChangesByLooks();
        nothingChangesInSheets();
        quotientsAreCut();
        setsAreToldByBits();
        e.wholeOfTerms("## Terms", "1. MINUTE");
        e.end();
    }

    private static void atMost512Calls() {
        e.at(Doc.TERMS, "An object is used for at most 512 calls after it has been made");
        MoleSecrets x = new MoleSecrets();
        for (int call = 1; call <= 510; call++) {
            x.where(6);
        }
        e.due("the 511th call, mole(5, 29, 0)", x.mole(5, 29, 0), 0);
        e.due("the 512th call, status(-1)", x.status(-1), 510);
    }

    private static void numbersOfFindings() {
        e.at(Doc.TERMS, "FINDINGS are answers below -1000000000: -1000000001 BEYOND, -1000000002 FULL, -1000000003 KIND,"
            + " -1000000004 NONE, -1000000005 STATE, -1000000006 MISSING, -1000000007 SIZE (in longs, too).");
        MoleSecrets x = Everything.full();
        e.due("where(6)", x.where(6), -1000000001);
        e.due("mole(0, 0, 0)", x.mole(0, 0, 0), -1000000002);
        e.due("as(1, 1)", x.as(1, 1), -1000000003);
        e.due("out(2)", x.out(2), -1000000004);
        e.due("lays(3)", x.lays(3), -1000000006);
        e.due("sheet(0, 8, -1)", x.sheet(0, 8, -1), -1000000007);
        e.due("write(4, 0, 0)", x.write(4, 0, 0), -1000000001L);
        e.due("write(3, 0, 0)", x.write(3, 0, 0), -1000000006L);
        // STATE can't come about within 512 calls.
        MoleSecrets late = new MoleSecrets();
        for (int i = 0; i < 999; i++) {
            late.minutes(100);
        }
        e.due("minutes(100)", late.minutes(100), -1000000005);
        e.due("minutes(101), BEYOND ahead of STATE", late.minutes(101), -1000000001);
    }

    private static void orderOfFindings() {
        e.at(Doc.TERMS, "Each act tells its findings in the order in which they are asked");
        MoleSecrets full = Everything.full();
        e.due("mole(6, 0, 0) for a 7th", full.mole(6, 0, 0), Checks.BEYOND);
        e.due("mole(0, 30, 0) for a 7th", full.mole(0, 30, 0), Checks.BEYOND);
        e.due("mole(0, 0, -1) for a 7th", full.mole(0, 0, -1), Checks.BEYOND);
        e.due("feed(0, 0), full", full.feed(0, 0), Checks.BEYOND);
        e.due("feed(0, 5), full", full.feed(0, 5), Checks.BEYOND);
        e.due("as(6, 1)", full.as(6, 1), Checks.BEYOND);
        e.due("as(1, 6)", full.as(1, 6), Checks.BEYOND);
        MoleSecrets nobody = Everything.tunnel();
        e.due("dig(0), all dug", nobody.dig(0), Checks.BEYOND);
        e.due("dig(61), all dug", nobody.dig(61), Checks.BEYOND);
        e.due("leave(-1), nobody there", nobody.leave(-1), Checks.BEYOND);
        e.due("leave(6), nobody there", nobody.leave(6), Checks.BEYOND);
        e.due("dismiss(0), nobody there", nobody.dismiss(0), Checks.BEYOND);
        e.due("dismiss(61), nobody there", nobody.dismiss(61), Checks.BEYOND);
        e.due("richest(-1), nobody there", nobody.richest(-1), Checks.BEYOND);
        e.due("richest(201), nobody there", nobody.richest(201), Checks.BEYOND);
        e.due("status(0)", nobody.status(0), 8);
        e.due("status(3), none of them NONE", nobody.status(3), 0);
    }

    private static void orderOfFindingsOfSheets() {
        MoleSecrets x = Everything.some();
        e.due("sheet(4, 8, -1)", x.sheet(4, 8, -1), Checks.BEYOND);
        e.due("sheet(0, 7, -1)", x.sheet(0, 7, -1), Checks.BEYOND);
        e.due("sheet(0, 0, -1)", x.sheet(0, 0, -1), Checks.SIZE);
        e.due("write(4, -1, 0)", x.write(4, -1, 0), Checks.BEYOND);
        e.due("write(3, -1, 0)", x.write(3, -1, 0), Checks.MISSING);
        e.due("copy(3, 0, 4, 0, 0)", x.copy(3, 0, 4, 0, 0), Checks.BEYOND);
        e.due("copy(-1, 0, 3, 0, 0)", x.copy(-1, 0, 3, 0, 0), Checks.BEYOND);
        e.due("copy(0, 0, 3, 0, -1)", x.copy(0, 0, 3, 0, -1), Checks.MISSING);
        e.due("copy(3, 0, 0, 0, 99)", x.copy(3, 0, 0, 0, 99), Checks.MISSING);
        e.due("copy(0, 0, 1, 0, -1)", x.copy(0, 0, 1, 0, -1), Checks.KIND);
        e.due("copy(1, 9, 2, 9, 9)", x.copy(1, 9, 2, 9, 9), Checks.KIND);
        e.due("book(4, 3)", x.book(4, 3), Checks.BEYOND);
        e.due("book(3, 3)", x.book(3, 3), Checks.MISSING);
        e.due("read(4, 3)", x.read(4, 3), Checks.BEYOND);
        e.due("read(3, 3)", x.read(3, 3), Checks.MISSING);
    }

    private static void refused(String call, Edges.Act act, int finding) {
        e.refused(call, Everything::some, act, finding);
        e.refused(call + ", full", Everything::full, act, finding);
    }

    private static void nothingChangesInTheShire() {
        e.at(Doc.TERMS, "one that answers a finding changes nothing but status()");
        refused("cell(30, 0, 1)", x -> x.cell(30, 0, 1), Checks.BEYOND);
        refused("cell(5, 0, 2)", x -> x.cell(5, 0, 2), Checks.BEYOND);
        refused("cell(5, 1, 100)", x -> x.cell(5, 1, 100), Checks.BEYOND);
        refused("cellOf(0, 4)", x -> x.cellOf(0, 4), Checks.BEYOND);
        refused("tell(1, 30)", x -> x.tell(1, 30), Checks.BEYOND);
        refused("tell(4, -2)", x -> x.tell(4, -2), Checks.BEYOND);
        refused("where(6)", x -> x.where(6), Checks.BEYOND);
        refused("now(6)", x -> x.now(6), Checks.BEYOND);
        refused("mole(0, 0, 30)", x -> x.mole(0, 0, 30), Checks.BEYOND);
        e.refused("mole(0, 0, 0)", Everything::full, x -> x.mole(0, 0, 0), Checks.FULL);
        refused("of(6, 0)", x -> x.of(6, 0), Checks.BEYOND);
        refused("charges(0, 2)", x -> x.charges(0, 2), Checks.BEYOND);
        refused("set(0, 1, 30)", x -> x.set(0, 1, 30), Checks.BEYOND);
        refused("set(0, 5, 10000)", x -> x.set(0, 5, 10000), Checks.BEYOND);
        refused("turn(0, 6)", x -> x.turn(0, 6), Checks.BEYOND);
        refused("as(0, 6)", x -> x.as(0, 6), Checks.BEYOND);
        refused("as(0, 2)", x -> x.as(0, 2), Checks.KIND);
        refused("minutes(101)", x -> x.minutes(101), Checks.BEYOND);
        refused("minutes(0)", x -> x.minutes(0), Checks.BEYOND);
        refused("feed(32, 5)", x -> x.feed(32, 5), Checks.BEYOND);
        e.refused("feed(32, 1)", Everything::full, x -> x.feed(32, 1), Checks.FULL);
        refused("count(4)", x -> x.count(4), Checks.BEYOND);
        refused("status(7)", x -> x.status(7), Checks.BEYOND);
        e.refused("undo()", Everything::tunnel, x -> x.undo(), Checks.NONE);
    }

    private static void nothingChangesByLooks() {
        refused("on(0, 201, 0)", x -> x.on(0, 201, 0), Checks.BEYOND);
        refused("then(0, 201)", x -> x.then(0, 201), Checks.BEYOND);
        refused("out(6)", x -> x.out(6), Checks.BEYOND);
        refused("out(3)", x -> x.out(3), Checks.NONE);
        refused("dug(30)", x -> x.dug(30), Checks.BEYOND);
        refused("dug(4)", x -> x.dug(4), Checks.NONE);
        refused("comes(0, 30)", x -> x.comes(0, 30), Checks.BEYOND);
        refused("comes(0, 4)", x -> x.comes(0, 4), Checks.NONE);
        refused("kind(0, 6)", x -> x.kind(0, 6), Checks.BEYOND);
        refused("lead(0, 61)", x -> x.lead(0, 61), Checks.BEYOND);
        refused("dig(61)", x -> x.dig(61), Checks.BEYOND);
        e.refused("dig(60)", Everything::tunnel, x -> x.dig(60), Checks.NONE);
        refused("leave(6)", x -> x.leave(6), Checks.BEYOND);
        e.refused("leave(0)", Everything::tunnel, x -> x.leave(0), Checks.NONE);
        refused("dismiss(61)", x -> x.dismiss(61), Checks.BEYOND);
        e.refused("dismiss(60)", Everything::tunnel, x -> x.dismiss(60), Checks.NONE);
        refused("richest(201)", x -> x.richest(201), Checks.BEYOND);
        e.refused("richest(200)", Everything::tunnel, x -> x.richest(200), Checks.NONE);
    }

    private static void nothingChangesInSheets() {
        refused("sheet(4, 8, 1)", x -> x.sheet(4, 8, 1), Checks.BEYOND);
        refused("sheet(0, 32, 1)", x -> x.sheet(0, 32, 1), Checks.BEYOND);
        refused("sheet(0, 16, -1)", x -> x.sheet(0, 16, -1), Checks.SIZE);
        refused("sheet(0, 0, -1)", x -> x.sheet(0, 0, -1), Checks.SIZE);
        refused("sheet(0, 16, 41)", x -> x.sheet(0, 16, 41), Checks.BEYOND);
        refused("sheet(0, 0, 41)", x -> x.sheet(0, 0, 41), Checks.BEYOND);
        refused("write(4, 0, 7)", x -> x.write(4, 0, 7), Checks.BEYOND);
        refused("write(3, 0, 7)", x -> x.write(3, 0, 7), Checks.MISSING);
        refused("write(0, 3, 7)", x -> x.write(0, 3, 7), Checks.BEYOND);
        refused("copy(0, 0, 4, 0, 1)", x -> x.copy(0, 0, 4, 0, 1), Checks.BEYOND);
        refused("copy(0, 0, 3, 0, 1)", x -> x.copy(0, 0, 3, 0, 1), Checks.MISSING);
        refused("copy(0, 0, 1, 0, 1)", x -> x.copy(0, 0, 1, 0, 1), Checks.KIND);
        refused("copy(0, 0, 0, 1, 3)", x -> x.copy(0, 0, 0, 1, 3), Checks.BEYOND);
        refused("lays(4)", x -> x.lays(4), Checks.BEYOND);
        refused("lays(3)", x -> x.lays(3), Checks.MISSING);
        refused("book(4, 0)", x -> x.book(4, 0), Checks.BEYOND);
        refused("book(3, 0)", x -> x.book(3, 0), Checks.MISSING);
        refused("book(0, 6)", x -> x.book(0, 6), Checks.BEYOND);
        refused("read(4, 0)", x -> x.read(4, 0), Checks.BEYOND);
        refused("read(3, 0)", x -> x.read(3, 0), Checks.MISSING);
        refused("read(0, 6)", x -> x.read(0, 6), Checks.BEYOND);
    }

    private static void quotientsAreCut() {
        e.at(Doc.TERMS, "Quotients are cut.");
        MoleSecrets x = Everything.one(4, 0, 29);
        int[] cells = {0, 5, 6, 11, 12, 17, 18, 23, 24, 29};
        int[] evenRow = {1, 1, 0, 0, 1, 1, 0, 0, 1, 1};
        for (int i = 0; i < cells.length; i++) {
            x.set(0, 1, cells[i]);
            e.due("of(0, 9) of a MASTER at " + cells[i], x.of(0, 9), evenRow[i]);
        }
    }

    private static void setsAreToldByBits() {
        e.at(Doc.TERMS, "Sets are told by bits.");
        MoleSecrets x = Everything.full();
        for (int cell = 0; cell < 30; cell++) {
            x.cell(cell, 0, cell == 0 || cell == 29 ? 1 : 0);
        }
        e.due("now(1), the first and the last cell", x.now(1), 1 + 536870912);
        x.set(0, 1, 29);
        for (int mole = 1; mole < 5; mole++) {
            x.set(mole, 1, 3);
        }
        x.set(5, 1, 29);
        e.due("cellOf(29, 2), the first and the last mole", x.cellOf(29, 2), 1 + 32);
        e.due("cellOf(28, 2), nobody", x.cellOf(28, 2), 0);
        x.tell(0, 28);
        x.tell(5, 28);
        e.due("cellOf(28, 3), the first and the last secret", x.cellOf(28, 3), 1 + 32);
        e.due("cellOf(29, 3), none", x.cellOf(29, 3), 0);
    }
}
