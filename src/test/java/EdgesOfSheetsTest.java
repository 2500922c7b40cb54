import java.io.IOException;

/** Boundaries of promises 28 to 33: sheet, write, copy, lays, book, read. */
public final class EdgesOfSheetsTest {
    private static Edges e;

    public static void main(String[] args) throws IOException {
        e = new Edges("EdgesOfSheetsTest");
        sheet();
        sheetBeyond();
        sheetSize();
        write();
        writeLowestBits();
        writeFindings();
        copy();
        copyAsTheyAllWere();
        copyFindings();
        copyBeyond();
        lays();
        laysLeftOut();
        book();
        bookFindings();
        read();
        readFullSheets();
        readFindings();
        e.whole(28, 33);
        e.end();
    }

    private static void numbers(MoleSecrets x, int s, long... due) {
        for (int i = 0; i < due.length; i++) {
            e.due("number " + i + " of sheet " + s, x.write(s, i, 0), due[i]);
        }
        e.due("number " + due.length + " of sheet " + s, x.write(s, due.length, 0), Checks.BEYOND);
    }

    private static void sheet() {
        e.at(28, "A sheet has n numbers, all 0, of 8, 16 or 64 bits; bits 0: it is MISSING: n (0 if it is MISSING).");
        for (int s = 0; s < 4; s++) {
            for (int bits : new int[] {8, 16, 64}) {
                MoleSecrets x = Everything.some();
                e.due("sheet(" + s + ", " + bits + ", 3)", x.sheet(s, bits, 3), 3);
                numbers(x, s, 0, 0, 0);
                e.due("sheet(" + s + ", " + bits + ", 0)", x.sheet(s, bits, 0), 0);
                e.due("write(" + s + ", 0, 0), of no numbers", x.write(s, 0, 0), Checks.BEYOND);
                e.due("sheet(" + s + ", " + bits + ", 40)", x.sheet(s, bits, 40), 40);
                e.due("write(" + s + ", 39, 7)", x.write(s, 39, 7), 0);
                e.due("sheet(" + s + ", " + bits + ", 40)", x.sheet(s, bits, 40), 40);
                e.due("write(" + s + ", 39, 7), all 0 again", x.write(s, 39, 7), 0);
                x.sheet(s, bits, 1);
                e.due("sheet(" + s + ", " + bits + ", 40)", x.sheet(s, bits, 40), 40);
                e.due("write(" + s + ", 39, 7), all 0 again", x.write(s, 39, 7), 0);
            }
            for (int n : new int[] {0, 1, 40}) {
                MoleSecrets x = Everything.some();
                e.due("sheet(" + s + ", 0, " + n + ")", x.sheet(s, 0, n), 0);
                e.due("write(" + s + ", 0, 0)", x.write(s, 0, 0), Checks.MISSING);
            }
        }
        // Another sheet stays as it was.
        MoleSecrets y = Everything.some();
        y.sheet(1, 64, 40);
        numbers(y, 0, 5, 6, 0);
        numbers(y, 2, 3000000000L, 3000000001L);
    }

    private static void sheetBeyond() {
        e.at(28, "BEYOND: no such sheet, other bits.");
        e.within("sheet(v, 8, 2)", Everything::some, (x, v) -> x.sheet(v, 8, 2), 0, 2, 3, 2);
        e.within("sheet(v, 0, 2)", Everything::some, (x, v) -> x.sheet(v, 0, 2), 0, 0, 3, 0);
        for (int bits : new int[] {-1, 1, 7, 9, 15, 17, 32, 63, 65, 128, -8, -64, Integer.MIN_VALUE, Integer.MAX_VALUE}) {
            e.refused("sheet(0, " + bits + ", 2)", Everything::some, x -> x.sheet(0, bits, 2), Checks.BEYOND);
        }
        e.refused("sheet(-1, 8, -1), ahead of SIZE", Everything::some, x -> x.sheet(-1, 8, -1), Checks.BEYOND);
        e.refused("sheet(0, 9, -1), ahead of SIZE", Everything::some, x -> x.sheet(0, 9, -1), Checks.BEYOND);
    }

    private static void sheetSize() {
        for (int bits : new int[] {0, 8, 16, 64}) {
            int n = bits;
            e.at(28, "SIZE: n is below 0 (also with bits 0).");
            e.due("sheet(0, " + bits + ", 0)", Everything.some().sheet(0, bits, 0), 0);
            e.refused("sheet(0, " + bits + ", -1)", Everything::some, x -> x.sheet(0, n, -1), Checks.SIZE);
            e.refused("sheet(0, " + bits + ", MIN_VALUE)", Everything::some, x -> x.sheet(0, n, Integer.MIN_VALUE), Checks.SIZE);
            e.at(28, "BEYOND: n is above 40 (also with bits 0).");
            e.due("sheet(0, " + bits + ", 40)", Everything.some().sheet(0, bits, 40), bits == 0 ? 0 : 40);
            e.refused("sheet(0, " + bits + ", 41)", Everything::some, x -> x.sheet(0, n, 41), Checks.BEYOND);
            e.refused("sheet(0, " + bits + ", MAX_VALUE)", Everything::some, x -> x.sheet(0, n, Integer.MAX_VALUE), Checks.BEYOND);
        }
    }

    private static void write() {
        e.at(29, "Number i of a sheet becomes v");
        MoleSecrets x = Everything.some();
        e.due("write(0, 0, 9)", x.write(0, 0, 9), 5);
        e.due("write(0, 2, 8)", x.write(0, 2, 8), 0);
        numbers(x, 0, 9, 6, 8);
        e.at(29, "what it was.");
        for (int bits : new int[] {8, 16, 64}) {
            x.sheet(3, bits, 40);
            e.due("write(3, 0, 1)", x.write(3, 0, 1), 0);
            e.due("write(3, 39, 2)", x.write(3, 39, 2), 0);
            e.due("write(3, 0, 3)", x.write(3, 0, 3), 1);
            e.due("write(3, 39, 3)", x.write(3, 39, 3), 2);
        }
        // A number that looks like a finding is none.
        x.write(2, 0, Checks.SIZE);
        int all = x.status(-1);
        e.due("write(2, 0, 0)", x.write(2, 0, 0), Checks.SIZE);
        e.due("status(-1)", x.status(-1), all);
    }

    private static void cut(int bits, long v, long due) {
        MoleSecrets x = new MoleSecrets();
        x.sheet(0, bits, 1);
        x.write(0, 0, v);
        e.due(v + " in " + bits + " bits", x.write(0, 0, 0), due);
    }

    private static void writeLowestBits() {
        e.at(29, "(its lowest bits)");
        long[][] in8 = {{127, 127}, {128, -128}, {255, -1}, {256, 0}, {257, 1}, {-1, -1}, {-128, -128}, {-129, 127}, {-256, 0}};
        for (long[] pair : in8) {
            cut(8, pair[0], pair[1]);
            cut(16, pair[0], pair[0]);
            cut(64, pair[0], pair[0]);
        }
        long[][] in16 = {{32767, 32767}, {32768, -32768}, {65535, -1}, {65536, 0}, {65537, 1}, {-32768, -32768}, {-32769, 32767}};
        for (long[] pair : in16) {
            cut(16, pair[0], pair[1]);
            cut(64, pair[0], pair[0]);
        }
        long[] in64 = {1L << 31, 1L << 32, (1L << 32) + 5, 1L << 62, Long.MAX_VALUE, Long.MIN_VALUE, Long.MIN_VALUE + 1};
        for (long v : in64) {
            cut(64, v, v);
        }
        cut(8, Long.MAX_VALUE, -1);
        cut(8, Long.MIN_VALUE, 0);
        cut(16, Long.MAX_VALUE, -1);
        cut(16, Long.MIN_VALUE, 0);
    }

    private static void writeFindings() {
        e.at(29, "BEYOND: no such sheet.");
        e.within("write(v, 0, 7)", EdgesOfSheetsTest::all, (x, v) -> x.write(v, 0, 7), 0, 5, 3, 0);
        e.at(29, "MISSING.");
        e.refused("write(3, 0, 7)", Everything::some, x -> x.write(3, 0, 7), Checks.MISSING);
        e.refused("write(3, -1, 7), ahead of BEYOND", Everything::some, x -> x.write(3, -1, 7), Checks.MISSING);
        e.at(29, "BEYOND: no such number.");
        e.within("write(0, v, 7)", Everything::some, (x, v) -> x.write(0, v, 7), 0, 5, 2, 0);
        e.within("write(1, v, 7)", Everything::some, (x, v) -> x.write(1, v, 7), 0, 1, 3, 0);
        e.within("write(2, v, 7)", Everything::some, (x, v) -> x.write(2, v, 7), 0, 3000000000L, 1, 3000000001L);
        // One that was there when the sheet was longer.
        MoleSecrets y = Everything.some();
        y.sheet(0, 8, 1);
        e.due("write(0, 1, 7)", y.write(0, 1, 7), Checks.BEYOND);
        e.due("write(0, 0, 7)", y.write(0, 0, 7), 0);
    }

    /** Sheets 0 to 3, none MISSING. */
    private static MoleSecrets all() {
        MoleSecrets x = Everything.some();
        x.sheet(3, 16, 1);
        return x;
    }

    /** Two sheets of 40: the one has 1 to 40, the other noughts. */
    private static MoleSecrets forty(int bits) {
        MoleSecrets x = new MoleSecrets();
        x.sheet(0, bits, 40);
        x.sheet(1, bits, 40);
        for (int i = 0; i < 40; i++) {
            x.write(0, i, i + 1);
        }
        return x;
    }

    private static void copy() {
        e.at(30, "n numbers of a sheet from one on come to another one from one on");
        for (int bits : new int[] {8, 16, 64}) {
            MoleSecrets x = forty(bits);
            e.due("copy(0, 0, 1, 0, 40)", x.copy(0, 0, 1, 0, 40), 40);
            e.due("write(1, 0, 0)", x.write(1, 0, 0), 1);
            e.due("write(1, 39, 0)", x.write(1, 39, 0), 40);
            e.due("copy(0, 39, 1, 0, 1)", x.copy(0, 39, 1, 0, 1), 1);
            e.due("write(1, 0, 0)", x.write(1, 0, 0), 40);
            e.due("write(1, 1, 0)", x.write(1, 1, 0), 2);
            e.due("copy(0, 0, 1, 39, 1)", x.copy(0, 0, 1, 39, 1), 1);
            e.due("write(1, 39, 0)", x.write(1, 39, 0), 1);
            e.due("write(1, 38, 0)", x.write(1, 38, 0), 39);
            e.due("write(0, 0, 0), stays", x.write(0, 0, 0), 1);
        }
        // n 0: nothing comes, from just behind the last, too.
        MoleSecrets none = Everything.some();
        e.due("copy(0, 0, 0, 0, 0)", none.copy(0, 0, 0, 0, 0), 0);
        e.due("copy(0, 3, 0, 3, 0)", none.copy(0, 3, 0, 3, 0), 0);
        e.due("copy(2, 2, 2, 0, 0)", none.copy(2, 2, 2, 0, 0), 0);
        e.alike("copy of none", none, Everything.some());
        MoleSecrets empty = new MoleSecrets();
        empty.sheet(0, 8, 0);
        e.due("copy(0, 0, 0, 0, 0), of no numbers", empty.copy(0, 0, 0, 0, 0), 0);
        e.due("copy(0, 0, 0, 0, 1), of no numbers", empty.copy(0, 0, 0, 0, 1), Checks.BEYOND);
    }

    private static MoleSecrets five(int bits) {
        MoleSecrets x = new MoleSecrets();
        x.sheet(0, bits, 5);
        for (int i = 0; i < 5; i++) {
            x.write(0, i, i + 1);
        }
        return x;
    }

    private static void copyAsTheyAllWere() {
        e.at(30, "(as they all were): n.");
        for (int bits : new int[] {8, 16, 64}) {
            MoleSecrets on = five(bits);
            e.due("copy(0, 0, 0, 1, 4)", on.copy(0, 0, 0, 1, 4), 4);
            numbers(on, 0, 1, 1, 2, 3, 4);
            MoleSecrets back = five(bits);
            e.due("copy(0, 1, 0, 0, 4)", back.copy(0, 1, 0, 0, 4), 4);
            numbers(back, 0, 2, 3, 4, 5, 5);
            MoleSecrets same = five(bits);
            e.due("copy(0, 0, 0, 0, 5)", same.copy(0, 0, 0, 0, 5), 5);
            numbers(same, 0, 1, 2, 3, 4, 5);
        }
    }

    private static void copyFindings() {
        e.at(30, "BEYOND: no such sheet (either).");
        e.within("copy(v, 0, v, 0, 1)", EdgesOfSheetsTest::all, (x, v) -> x.copy(v, 0, v, 0, 1), 0, 1, 3, 1);
        e.refused("copy(-1, 0, 0, 0, 1)", Everything::some, x -> x.copy(-1, 0, 0, 0, 1), Checks.BEYOND);
        e.refused("copy(4, 0, 0, 0, 1)", Everything::some, x -> x.copy(4, 0, 0, 0, 1), Checks.BEYOND);
        e.refused("copy(0, 0, -1, 0, 1)", Everything::some, x -> x.copy(0, 0, -1, 0, 1), Checks.BEYOND);
        e.refused("copy(0, 0, 4, 0, 1)", Everything::some, x -> x.copy(0, 0, 4, 0, 1), Checks.BEYOND);
        e.refused("copy(3, 0, 4, 0, 1), ahead of MISSING", Everything::some, x -> x.copy(3, 0, 4, 0, 1), Checks.BEYOND);
        e.at(30, "MISSING: one is.");
        e.refused("copy(3, 0, 0, 0, 1)", Everything::some, x -> x.copy(3, 0, 0, 0, 1), Checks.MISSING);
        e.refused("copy(0, 0, 3, 0, 1)", Everything::some, x -> x.copy(0, 0, 3, 0, 1), Checks.MISSING);
        e.refused("copy(3, 0, 3, 0, 0)", Everything::some, x -> x.copy(3, 0, 3, 0, 0), Checks.MISSING);
        e.refused("copy(3, -1, 0, 0, -1), ahead of BEYOND", Everything::some, x -> x.copy(3, -1, 0, 0, -1), Checks.MISSING);
        e.at(30, "KIND: they are not of as many bits.");
        for (int s = 0; s < 3; s++) {
            for (int t = 0; t < 3; t++) {
                e.due("copy(" + s + ", 0, " + t + ", 0, 1)", Everything.some().copy(s, 0, t, 0, 1), s == t ? 1 : Checks.KIND);
            }
        }
        e.refused("copy(0, 0, 1, 0, 0)", Everything::some, x -> x.copy(0, 0, 1, 0, 0), Checks.KIND);
        e.refused("copy(1, 9, 2, -1, 99), ahead of BEYOND", Everything::some, x -> x.copy(1, 9, 2, -1, 99), Checks.KIND);
    }

    private static void beyond(int from, int to, int n) {
        e.refused("copy(0, " + from + ", 3, " + to + ", " + n + ")", EdgesOfSheetsTest::threeAndFive,
            x -> x.copy(0, from, 3, to, n), Checks.BEYOND);
    }

    /** Of 8 bits both, sheet 0 has 3 numbers and sheet 3 has 5. */
    private static MoleSecrets threeAndFive() {
        MoleSecrets x = Everything.some();
        x.sheet(3, 8, 5);
        return x;
    }

    private static void copyBeyond() {
        e.at(30, "BEYOND: one has not so many, or from, to or n is below 0.");
        e.due("copy(0, 0, 3, 2, 3), the last", threeAndFive().copy(0, 0, 3, 2, 3), 3);
        beyond(0, 3, 3);
        e.due("copy(0, 1, 3, 0, 2), the last", threeAndFive().copy(0, 1, 3, 0, 2), 2);
        beyond(1, 0, 3);
        beyond(0, 0, 4);
        e.due("copy(3, 2, 0, 0, 3), the last", threeAndFive().copy(3, 2, 0, 0, 3), 3);
        e.refused("copy(3, 0, 0, 0, 4)", EdgesOfSheetsTest::threeAndFive, x -> x.copy(3, 0, 0, 0, 4), Checks.BEYOND);
        e.due("copy(0, 3, 3, 5, 0), behind both", threeAndFive().copy(0, 3, 3, 5, 0), 0);
        beyond(4, 0, 0);
        beyond(0, 6, 0);
        beyond(-1, 0, 1);
        beyond(0, -1, 1);
        beyond(0, 0, -1);
        beyond(-1, -1, 0);
        beyond(Integer.MIN_VALUE, 0, 1);
        beyond(0, Integer.MIN_VALUE, 1);
        beyond(0, 0, Integer.MIN_VALUE);
        beyond(Integer.MAX_VALUE, 0, 1);
        beyond(0, Integer.MAX_VALUE, 1);
        beyond(0, 0, Integer.MAX_VALUE);
        // What would wrap round below 0, if it were added up.
        beyond(1, 1, Integer.MAX_VALUE);
        beyond(Integer.MAX_VALUE, Integer.MAX_VALUE, 3);
        beyond(Integer.MAX_VALUE, Integer.MAX_VALUE, Integer.MAX_VALUE);
        beyond(3, 5, Integer.MIN_VALUE);
    }

    private static void lays() {
        e.at(31, "Numbers of a sheet become DUG of cells 0, 1, ..");
        MoleSecrets x = new MoleSecrets();
        x.cell(0, 0, 1);
        x.cell(29, 0, 1);
        x.sheet(0, 8, 0);
        e.due("lays(0), of no numbers", x.lays(0), 0);
        x.sheet(0, 8, 1);
        e.due("lays(0), of one", x.lays(0), 1);
        e.due("now(1)", x.now(1), 1 << 29);
        x.sheet(0, 16, 29);
        e.due("lays(0), of 29", x.lays(0), 29);
        e.due("now(1), the last stays", x.now(1), 1 << 29);
        x.sheet(0, 64, 30);
        x.write(0, 0, 1);
        e.due("lays(0), of 30", x.lays(0), 30);
        e.due("now(1)", x.now(1), 1);
        e.at(31, "BEYOND: no such sheet.");
        e.within("lays(v)", EdgesOfSheetsTest::all, (y, v) -> y.lays(v), 0, 1, 3, 1);
        e.at(31, "MISSING.");
        e.refused("lays(3)", Everything::some, y -> y.lays(3), Checks.MISSING);
    }

    private static void laysLeftOut() {
        e.at(31, "(those that aren't 0 or 1, or stand for none, are left out): how many came.");
        MoleSecrets x = new MoleSecrets();
        x.sheet(0, 64, 40);
        for (int i = 0; i < 40; i++) {
            x.write(0, i, 1);
        }
        e.due("lays(0), ten stand for none", x.lays(0), 30);
        e.due("now(1)", x.now(1), (1 << 30) - 1);
        long[] other = {-1, 2, 1L << 32, (1L << 32) + 1, Long.MIN_VALUE, Long.MAX_VALUE};
        for (int i = 0; i < other.length; i++) {
            x.write(0, i, other[i]);
        }
        x.write(0, 29, 0);
        e.due("lays(0), six aren't 0 or 1", x.lays(0), 24);
        e.due("now(1), those stay", x.now(1), (1 << 29) - 1);
        x.sheet(1, 8, 3);
        x.write(1, 0, 256);
        x.write(1, 1, 257);
        x.write(1, 2, 255);
        e.due("lays(1), cut to 8 bits", x.lays(1), 2);
        e.due("now(1)", x.now(1), (1 << 29) - 2);
    }

    private static void book() {
        e.at(32, "A book: the cell of a mole 0, 1, 2, .. MINUTES AHEAD comes to a sheet, as many as it has numbers: how many.");
        for (int bits : new int[] {8, 16, 64}) {
            MoleSecrets x = Everything.tunnelOf(24, 29, 0);
            x.sheet(0, bits, 0);
            e.due("book(0, 0), of no numbers", x.book(0, 0), 0);
            x.sheet(0, bits, 1);
            e.due("book(0, 0), of one", x.book(0, 0), 1);
            numbers(x, 0, 24);
            x.sheet(0, bits, 7);
            e.due("book(0, 0), of 7", x.book(0, 0), 7);
            numbers(x, 0, 24, 25, 26, 27, 28, 29, 28);
            x.sheet(0, bits, 40);
            e.due("book(0, 0), of 40", x.book(0, 0), 40);
            e.due("write(0, 39, 0), 39 AHEAD", x.write(0, 39, 0), 25);
            e.due("of(0, 1), nothing has gone", x.of(0, 1), 24);
            e.due("now(0)", x.now(0), 0);
        }
    }

    private static void bookFindings() {
        e.at(32, "BEYOND: no such sheet.");
        e.within("book(v, 1)", EdgesOfSheetsTest::all, (x, v) -> x.book(v, 1), 0, 3, 3, 1);
        e.refused("book(4, 3)", Everything::some, x -> x.book(4, 3), Checks.BEYOND);
        e.at(32, "MISSING.");
        e.refused("book(3, 0)", Everything::some, x -> x.book(3, 0), Checks.MISSING);
        e.refused("book(3, 9), ahead of BEYOND", Everything::some, x -> x.book(3, 9), Checks.MISSING);
        e.at(32, "BEYOND: mole.");
        e.within("book(0, v)", Everything::some, (x, v) -> x.book(0, v), 0, 3, 2, 3);
        e.within("book(0, v), full", Everything::full, (x, v) -> x.book(0, v), 0, 3, 5, 3);
        MoleSecrets nobody = new MoleSecrets();
        nobody.sheet(0, 8, 0);
        e.due("book(0, 0), nobody there", nobody.book(0, 0), Checks.BEYOND);
    }

    private static void read() {
        e.at(33, "THE READER: numbers of a sheet are the cell of a mole 0, 1, 2, .. MINUTES AHEAD: how many pairs of a KIND and an END"
            + " of it make it just so.");
        MoleSecrets x = Everything.tunnelOf(0, 5, 0);
        x.sheet(0, 64, 0);
        e.due("read(0, 0), of no numbers", x.read(0, 0), 180);
        x.sheet(0, 64, 1);
        e.due("read(0, 0), where it is", x.read(0, 0), 180);
        for (long other : new long[] {1, -1, 29, 30, 1L << 32, Long.MIN_VALUE, Long.MAX_VALUE}) {
            x.write(0, 0, other);
            e.due("read(0, 0) of " + other, x.read(0, 0), 0);
        }
        // In a MINUTE from 0 to 6: who TURNS FIRST to one of 24 ENDS in other ROWS, others to 4 in COLUMN 0 (MOLE, CARRIER).
        // MASTER and HURRIER, with two STEPS, are further on then, or back.
        x.sheet(0, 8, 2);
        x.write(0, 1, 6);
        e.due("read(0, 0), 0 and 6", x.read(0, 0), 2 * 24 + 2 * 4);
        // A pair of a KIND and an END that it has itself counts as any other: the mole stays as it is.
        e.onlyLooks("read(0, 2)", Everything::some, y -> y.read(0, 2));
    }

    private static void readFullSheets() {
        // All 40 noughts: END 0 for each KIND; MASTER and HURRIER, too, to 1 or to 6 and back in each MINUTE.
        MoleSecrets x = Everything.tunnelOf(0, 5, 0);
        x.sheet(0, 8, 40);
        e.due("read(0, 0), AT 0 for 39 MINUTES", x.read(0, 0), 6 + 4);
        x.write(0, 39, 1);
        e.due("read(0, 0), but for the last", x.read(0, 0), 0);
        // In earth: RETIRED, whatever its END; the others with END 0; MASTER to 1 or to 6 and back.
        MoleSecrets y = Everything.one(0, 0, 5);
        y.sheet(0, 16, 40);
        e.due("read(0, 0), in earth", y.read(0, 0), 30 + 5 + 2);
        // With bits cut: 256 is 0.
        y.sheet(0, 8, 40);
        y.write(0, 39, 256);
        e.due("read(0, 0), cut to 8 bits", y.read(0, 0), 30 + 5 + 2);
        // The last cell: 29 to 29 by END 29 (six), by END 28 or 23 and back (MASTER, HURRIER).
        MoleSecrets z = Everything.tunnelOf(29, 0, 5);
        z.sheet(3, 64, 40);
        for (int i = 0; i < 40; i++) {
            z.write(3, i, 29);
        }
        e.due("read(3, 0), AT 29", z.read(3, 0), 6 + 4);
    }

    private static void readFindings() {
        e.at(33, "BEYOND: no such sheet.");
        e.within("read(v, 2)", EdgesOfSheetsTest::noneFits, (x, v) -> x.read(v, 2), 0, 0, 3, 180);
        e.refused("read(4, 3)", Everything::some, x -> x.read(4, 3), Checks.BEYOND);
        e.at(33, "MISSING.");
        e.refused("read(3, 0)", Everything::some, x -> x.read(3, 0), Checks.MISSING);
        e.refused("read(3, 9), ahead of BEYOND", Everything::some, x -> x.read(3, 9), Checks.MISSING);
        e.at(33, "BEYOND: mole.");
        e.within("read(3, v)", EdgesOfSheetsTest::noneFits, (x, v) -> x.read(3, v), 0, 0, 2, 180);
        MoleSecrets nobody = new MoleSecrets();
        nobody.sheet(0, 8, 0);
        e.due("read(0, 0), nobody there", nobody.read(0, 0), Checks.BEYOND);
    }

    /** Sheet 0 fits none; sheet 3 has the one cell where mole 2 is. */
    private static MoleSecrets noneFits() {
        MoleSecrets x = Everything.some();
        x.sheet(3, 16, 1);
        x.write(3, 0, 24);
        return x;
    }
}
