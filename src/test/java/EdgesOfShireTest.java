import java.io.IOException;

/** Boundaries of promises 1 to 6: a new object, cell, cellOf, tell, where, now. */
public final class EdgesOfShireTest {
    private static Edges e;

    public static void main(String[] args) throws IOException {
        e = new Edges("EdgesOfShireTest");
        newObject();
        cell();
        cellOf();
        tell();
        tellTakesItFromWhoCarries();
        where();
        now();
        nowAtMost();
        e.whole(1, 6);
        e.end();
    }

    private static void newObject() {
        e.at(1, "All is earth, no MOLES; THE TAPE is empty, no image is kept.");
        MoleSecrets x = new MoleSecrets();
        e.due("now(1)", x.now(1), 0);
        e.due("count(2)", x.count(2), 0);
        e.due("count(0)", x.count(0), 0);
        e.due("of(0, 0)", x.of(0, 0), Checks.BEYOND);
        e.due("count(1)", x.count(1), 0);
        e.due("wipe()", x.wipe(), 0);
        e.due("tear()", x.tear(), 0);
        e.due("undo()", x.undo(), Checks.NONE);
        e.due("status(-1)", x.status(-1), 2);
        e.due("a newer object's status(-1)", new MoleSecrets().status(-1), 0);
        e.due("a newer object's shire()", new MoleSecrets().shire(), -1);
        e.same("a new object", Everything.of(new MoleSecrets()), Everything.of(new MoleSecrets()));
    }

    private static void cell() {
        e.at(2, "DUG (what 0), HEAPS (1) of a cell becomes v: what it was.");
        MoleSecrets x = Everything.some();
        e.due("cell(29, 0, 1)", x.cell(29, 0, 1), 0);
        e.due("cell(29, 0, 1)", x.cell(29, 0, 1), 1);
        e.due("cellOf(29, 1)", x.cellOf(29, 1), 0);
        e.due("cell(29, 1, 99)", x.cell(29, 1, 99), 0);
        e.due("cell(29, 1, 0)", x.cell(29, 1, 0), 99);
        e.due("cell(29, 0, 0)", x.cell(29, 0, 0), 1);
        e.due("cellOf(29, 0)", x.cellOf(29, 0), 0);
        e.alike("cell there and back", x, Everything.some());
        e.at(2, "BEYOND.");
        e.within("cell(v, 0, 1)", Everything::some, (y, v) -> y.cell(v, 0, 1), 0, 0, 29, 0);
        e.within("cell(v, 1, 99)", Everything::some, (y, v) -> y.cell(v, 1, 99), 0, 0, 29, 0);
        e.within("cell(17, v, 1)", Everything::some, (y, v) -> y.cell(17, v, 1), 0, 0, 1, 99);
        e.within("cell(20, 0, v)", Everything::some, (y, v) -> y.cell(20, 0, v), 0, 1, 1, 1);
        e.within("cell(17, 1, v)", Everything::some, (y, v) -> y.cell(17, 1, v), 0, 99, 99, 99);
    }

    private static void cellOf() {
        e.at(3, "Of a cell: what 0 DUG, 1 HEAPS, 2 who is there, 3 SECRETS that LIE there, as sets.");
        MoleSecrets x = Everything.full();
        for (int what = 0; what <= 3; what++) {
            e.due("cellOf(10, " + what + "), empty", x.cellOf(10, what), 0);
        }
        x.cell(10, 0, 1);
        x.cell(10, 1, 99);
        for (int mole = 0; mole < 6; mole++) {
            x.set(mole, 1, 10);
        }
        for (int secret = 0; secret < 6; secret++) {
            x.tell(secret, 10);
        }
        int[] all = {1, 99, 63, 63};
        for (int what = 0; what <= 3; what++) {
            e.due("cellOf(10, " + what + "), full", x.cellOf(10, what), all[what]);
        }
        x.minutes(1);
        e.due("cellOf(10, 3), all lifted", x.cellOf(10, 3), 0);
        e.at(3, "BEYOND.");
        e.within("cellOf(v, 1)", Everything::some, (y, v) -> y.cellOf(v, 1), 0, 0, 29, 0);
        e.within("cellOf(17, v)", Everything::some, (y, v) -> y.cellOf(17, v), 0, 0, 3, 32);
    }

    private static void tell() {
        e.at(4, "A secret LIES in a cell from now on");
        for (int cell = 0; cell < 30; cell += 29) {
            MoleSecrets x = Everything.some();
            x.tell(2, cell);
            e.due("where(2)", x.where(2), cell);
            e.due("cellOf(" + cell + ", 3)", x.cellOf(cell, 3), 4);
        }
        e.at(4, "where it was (-1, -2, -3, too).");
        MoleSecrets x = Everything.some();
        e.due("tell(2, 0), not told yet", x.tell(2, 0), -1);
        e.due("tell(2, 0), in the first cell", x.tell(2, 0), 0);
        e.due("tell(5, 29)", x.tell(5, 29), 17);
        e.due("tell(5, 0), in the last cell", x.tell(5, 0), 29);
        e.due("tell(1, 9), carried", x.tell(1, 9), -2);
        e.due("tell(0, 9), out", x.tell(0, 9), -3);
        e.due("where(0)", x.where(0), 9);
        e.due("now(3), no more out", x.now(3), 0);
        e.due("now(2), but the heap stays", x.now(2), 100);
        e.at(4, "BEYOND.");
        e.within("tell(v, 9)", Everything::some, (y, v) -> y.tell(v, 9), 0, -3, 5, 17);
        e.within("tell(1, v)", Everything::some, (y, v) -> y.tell(1, v), -1, -2, 29, -2);
        e.refused("tell(1, -3)", Everything::some, y -> y.tell(1, -3), Checks.BEYOND);
    }

    private static void tellTakesItFromWhoCarries() {
        e.at(4, "(nobody CARRIES it any more; -1: it isn't told)");
        for (int cell = -1; cell <= 29; cell += 15) {
            MoleSecrets x = Everything.some();
            e.due("of(1, 6)", x.of(1, 6), 1);
            x.tell(1, cell);
            e.due("of(1, 6), taken from it", x.of(1, 6), -1);
            e.due("of(2, 6), another's", x.of(2, 6), 4);
            e.due("where(1)", x.where(1), cell);
            e.due("now(4)", x.now(4), 16);
        }
        // The first mole of all and the last.
        MoleSecrets six = Everything.tunnelOf(0, 5, 0, 0, 0, 0, 0, 0);
        for (int secret = 0; secret < 6; secret++) {
            six.tell(secret, 0);
        }
        six.minutes(1);
        six.tell(0, -1);
        six.tell(5, 29);
        e.due("of(0, 6)", six.of(0, 6), -1);
        e.due("of(5, 6)", six.of(5, 6), -1);
        e.due("now(4)", six.now(4), 30);
    }

    private static void where() {
        e.at(5, "Where a secret is (a cell, -1, -2 or -3).");
        MoleSecrets x = Everything.some();
        int[] due = {-3, -2, -1, -1, -2, 17};
        for (int secret = 0; secret < 6; secret++) {
            e.due("where(" + secret + ")", x.where(secret), due[secret]);
        }
        x.tell(5, 0);
        e.due("where(5), the first cell", x.where(5), 0);
        x.tell(5, 29);
        e.due("where(5), the last cell", x.where(5), 29);
        e.at(5, "BEYOND.");
        e.within("where(v)", Everything::some, (y, v) -> y.where(v), 0, -3, 5, 17);
    }

    private static void now() {
        e.at(6, "What 0 MINUTE, 1 cells that are DUG, as a set, 2 HEAPS of all cells together, 3 SECRETS that are out, 4 that are"
            + " carried, as sets, 5 HANDS of all together.");
        MoleSecrets none = new MoleSecrets();
        MoleSecrets x = Everything.some();
        int dug = 0;
        for (int cell : new int[] {1, 2, 3, 7, 8, 18, 20, 24, 25, 26, 27, 28}) {
            dug |= 1 << cell;
        }
        // 13 of the DIGGER, 9999 of the MOLE, 12 of the HURRIER.
        int[] due = {4, dug, 100, 1, 18, 10024};
        for (int what = 0; what <= 5; what++) {
            e.due("now(" + what + ") of nothing", none.now(what), 0);
            e.due("now(" + what + ")", x.now(what), due[what]);
        }
        e.at(6, "BEYOND.");
        e.within("now(v)", Everything::some, (y, v) -> y.now(v), 0, 4, 5, 10024);
    }

    private static void nowAtMost() {
        e.at(6, "HEAPS of all cells together");
        MoleSecrets x = Everything.tunnel();
        for (int cell = 0; cell < 30; cell++) {
            x.cell(cell, 1, 99);
        }
        e.due("now(2), 99 in each", x.now(2), 2970);
        e.at(6, "cells that are DUG, as a set");
        e.due("now(1), all dug", x.now(1), 1073741823);
        e.at(6, "SECRETS that are out, 4 that are carried, as sets");
        for (int mole = 0; mole < 6; mole++) {
            x.mole(0, 0, 2);
            x.tell(mole, 0);
        }
        x.minutes(1);
        e.due("now(4), all carried", x.now(4), 63);
        e.due("now(3)", x.now(3), 0);
        x.minutes(1);
        e.due("now(4)", x.now(4), 0);
        e.due("now(3), all out", x.now(3), 63);
        e.at(6, "HANDS of all together");
        e.due("now(5), 10 for each", x.now(5), 60);
        for (int mole = 0; mole < 6; mole++) {
            x.set(mole, 5, 9999);
        }
        e.due("now(5), 9999 for each", x.now(5), 59994);
    }
}
