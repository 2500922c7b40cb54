/** Promises 28 to 33: sheet, write, copy, lays, book, read. */
public final class SheetsTest {
    private static final Checks c = new Checks("SheetsTest");

    public static void main(String[] args) {
        sheet();
        write();
        writeBits();
        copy();
        copyFindings();
        lays();
        book();
        read();
        c.end();
    }

    private static void sheet() {
        MoleSecrets x = new MoleSecrets();
        c.due("sheet(0, 8, 40)", x.sheet(0, 8, 40), 40);
        c.due("sheet(3, 64, 0)", x.sheet(3, 64, 0), 0);
        c.due("write(3, 0, 1)", x.write(3, 0, 1), Checks.BEYOND);
        c.due("sheet(1, 16, 3)", x.sheet(1, 16, 3), 3);
        x.write(1, 2, 77);
        c.due("sheet(1, 16, 3)", x.sheet(1, 16, 3), 3);
        c.due("write(1, 2, 1), all 0 again", x.write(1, 2, 1), 0);
        c.due("sheet(1, 0, 3)", x.sheet(1, 0, 3), 0);
        c.due("write(1, 0, 1)", x.write(1, 0, 1), Checks.MISSING);
        c.due("sheet(1, 0, 0)", x.sheet(1, 0, 0), 0);
        int[][] beyond = {{-1, 8, 1}, {4, 8, 1}, {0, 1, 1}, {0, 32, 1}, {0, -8, 1}, {0, 8, 41}, {0, 0, 41}, {4, 8, -1}, {0, 7, -1}};
        for (int[] w : beyond) {
            c.due("sheet(" + w[0] + ", " + w[1] + ", " + w[2] + ")", x.sheet(w[0], w[1], w[2]), Checks.BEYOND);
        }
        c.due("sheet(0, 8, -1)", x.sheet(0, 8, -1), Checks.SIZE);
        c.due("sheet(0, 0, -1)", x.sheet(0, 0, -1), Checks.SIZE);
        for (int far : Checks.FAR_OFF) {
            c.due("sheet(" + far + ", 8, 1)", x.sheet(far, 8, 1), Checks.BEYOND);
            c.due("sheet(0, " + far + ", 1)", x.sheet(0, far, 1), Checks.BEYOND);
            c.due("sheet(0, 8, " + far + ")", x.sheet(0, 8, far), far < 0 ? Checks.SIZE : Checks.BEYOND);
            c.due("sheet(0, 0, " + far + ")", x.sheet(0, 0, far), far < 0 ? Checks.SIZE : Checks.BEYOND);
        }
        c.due("write(0, 39, 0), as it was", x.write(0, 39, 0), 0);
    }

    private static void write() {
        MoleSecrets x = new MoleSecrets();
        x.sheet(2, 64, 5);
        c.due("write(2, 0, 5)", x.write(2, 0, 5), 0);
        c.due("write(2, 0, 6)", x.write(2, 0, 6), 5);
        c.due("write(2, 4, 7)", x.write(2, 4, 7), 0);
        c.due("write(2, 0, 0)", x.write(2, 0, 0), 6);
        c.due("write(2, 5, 0)", x.write(2, 5, 0), Checks.BEYOND);
        c.due("write(2, -1, 0)", x.write(2, -1, 0), Checks.BEYOND);
        c.due("write(-1, 0, 0)", x.write(-1, 0, 0), Checks.BEYOND);
        c.due("write(4, 0, 0)", x.write(4, 0, 0), Checks.BEYOND);
        c.due("write(1, -1, 0)", x.write(1, -1, 0), Checks.MISSING);
        for (int far : Checks.FAR_OFF) {
            c.due("write(" + far + ", 0, 0)", x.write(far, 0, 0), Checks.BEYOND);
            c.due("write(2, " + far + ", 0)", x.write(2, far, 0), Checks.BEYOND);
        }
        c.due("write(2, 4, 0)", x.write(2, 4, 0), 7);
        // A number that looks like a finding is none.
        x.write(2, 1, Checks.BEYOND);
        int all = x.status(-1);
        c.due("write(2, 1, 0)", x.write(2, 1, 0), Checks.BEYOND);
        c.due("status(-1)", x.status(-1), all);
    }

    private static void writeBits() {
        MoleSecrets x = new MoleSecrets();
        x.sheet(0, 8, 1);
        x.sheet(1, 16, 1);
        x.sheet(2, 64, 1);
        long[] values = {1, 127, 128, 255, 256, 32767, 32768, 65535, 65536, -1, -128, -129, -32769,
            Long.MIN_VALUE, Long.MAX_VALUE, 0x123456789ABCDEFL};
        long[] last = {0, 0, 0};
        for (long v : values) {
            c.due("write(0, 0, " + v + ")", x.write(0, 0, v), last[0]);
            c.due("write(1, 0, " + v + ")", x.write(1, 0, v), last[1]);
            c.due("write(2, 0, " + v + ")", x.write(2, 0, v), last[2]);
            last = new long[] {v << 56 >> 56, v << 48 >> 48, v};
        }
    }

    private static MoleSecrets counted(int bits) {
        MoleSecrets x = new MoleSecrets();
        for (int s = 0; s < 2; s++) {
            x.sheet(s, bits, 5);
            for (int i = 0; i < 5; i++) {
                x.write(s, i, 10 * s + i + 1);
            }
        }
        return x;
    }

    private static void numbers(MoleSecrets x, int s, long... due) {
        for (int i = 0; i < due.length; i++) {
            c.due("number " + i + " of sheet " + s, x.write(s, i, 0), due[i]);
        }
    }

    private static void copy() {
        for (int bits : new int[] {8, 16, 64}) {
            MoleSecrets x = counted(bits);
            c.due("copy(0, 1, 1, 2, 3)", x.copy(0, 1, 1, 2, 3), 3);
            numbers(x, 1, 11, 12, 2, 3, 4);
            numbers(x, 0, 1, 2, 3, 4, 5);
            MoleSecrets on = counted(bits);
            c.due("copy(0, 0, 0, 1, 4)", on.copy(0, 0, 0, 1, 4), 4);
            numbers(on, 0, 1, 1, 2, 3, 4);
            MoleSecrets back = counted(bits);
            c.due("copy(0, 1, 0, 0, 4)", back.copy(0, 1, 0, 0, 4), 4);
            numbers(back, 0, 2, 3, 4, 5, 5);
            MoleSecrets all = counted(bits);
            c.due("copy(1, 0, 0, 0, 5)", all.copy(1, 0, 0, 0, 5), 5);
            c.due("copy(1, 5, 0, 5, 0)", all.copy(1, 5, 0, 5, 0), 0);
            numbers(all, 0, 11, 12, 13, 14, 15);
        }
    }

    private static void copyFindings() {
        MoleSecrets x = counted(8);
        x.sheet(2, 16, 9);
        int[][] beyond = {{-1, 0, 0, 0, 1}, {4, 0, 0, 0, 1}, {0, 0, -1, 0, 1}, {0, 0, 4, 0, 1}, {3, 0, 4, 0, 1},
            {0, 0, 1, 0, 6}, {0, 1, 1, 0, 5}, {0, 0, 1, 1, 5}, {0, 6, 1, 0, 0}, {0, 0, 1, 6, 0},
            {0, -1, 1, 0, 1}, {0, 0, 1, -1, 1}, {0, 0, 1, 0, -1}, {0, 2, 1, 0, Integer.MAX_VALUE},
            {0, Integer.MAX_VALUE, 1, 0, 2}, {0, 0, 1, Integer.MAX_VALUE, 2},
            {0, Integer.MAX_VALUE, 1, Integer.MAX_VALUE, Integer.MAX_VALUE},
            {0, Integer.MIN_VALUE, 1, Integer.MIN_VALUE, Integer.MIN_VALUE}, {0, 0, 1, 0, Integer.MIN_VALUE}};
        for (int[] w : beyond) {
            c.due("copy(" + w[0] + ", " + w[1] + ", " + w[2] + ", " + w[3] + ", " + w[4] + ")",
                x.copy(w[0], w[1], w[2], w[3], w[4]), Checks.BEYOND);
        }
        c.due("copy(0, 0, 3, 0, 1)", x.copy(0, 0, 3, 0, 1), Checks.MISSING);
        c.due("copy(3, -1, 0, 0, 99)", x.copy(3, -1, 0, 0, 99), Checks.MISSING);
        c.due("copy(3, 0, 2, 0, 1)", x.copy(3, 0, 2, 0, 1), Checks.MISSING);
        c.due("copy(0, 0, 2, 0, 1)", x.copy(0, 0, 2, 0, 1), Checks.KIND);
        c.due("copy(2, -1, 0, 0, 99)", x.copy(2, -1, 0, 0, 99), Checks.KIND);
        numbers(x, 1, 11, 12, 13, 14, 15);
    }

    private static void lays() {
        MoleSecrets x = new MoleSecrets();
        x.cell(0, 0, 1);
        x.cell(2, 0, 1);
        x.cell(3, 0, 1);
        x.sheet(0, 64, 5);
        x.write(0, 1, 1);
        x.write(0, 2, 2);
        x.write(0, 3, -1);
        x.write(0, 4, 1L << 32);
        c.due("lays(0)", x.lays(0), 2);
        c.due("now(1)", x.now(1), 2 | 4 | 8);
        x.sheet(1, 8, 40);
        for (int i = 0; i < 40; i++) {
            x.write(1, i, 1);
        }
        c.due("lays(1)", x.lays(1), 30);
        c.due("now(1)", x.now(1), (1 << 30) - 1);
        x.sheet(1, 8, 0);
        c.due("lays(1), of no numbers", x.lays(1), 0);
        x.sheet(1, 16, 29);
        c.due("lays(1)", x.lays(1), 29);
        c.due("now(1)", x.now(1), 1 << 29);
        c.due("lays(2)", x.lays(2), Checks.MISSING);
        c.due("lays(-1)", x.lays(-1), Checks.BEYOND);
        c.due("lays(4)", x.lays(4), Checks.BEYOND);
        for (int far : Checks.FAR_OFF) {
            c.due("lays(" + far + ")", x.lays(far), Checks.BEYOND);
        }
    }

    private static void book() {
        MoleSecrets x = Checks.of("mole 20 29; digger 0 8");
        x.sheet(0, 8, 7);
        String was = Checks.state(x);
        c.due("book(0, 1)", x.book(0, 1), 7);
        c.same("book(0, 1)", Checks.state(x), was);
        numbers(x, 0, 0, 6, 7, 8, 2, 1, 0);
        x.sheet(1, 64, 40);
        c.due("book(1, 0)", x.book(1, 0), 40);
        for (int i = 0; i < 40; i++) {
            c.due("number " + i, x.write(1, i, 0), x.on(0, i, 0));
        }
        x.sheet(1, 16, 0);
        c.due("book(1, 0)", x.book(1, 0), 0);
        c.due("book(-1, 0)", x.book(-1, 0), Checks.BEYOND);
        c.due("book(4, 0)", x.book(4, 0), Checks.BEYOND);
        c.due("book(2, 9)", x.book(2, 9), Checks.MISSING);
        c.due("book(0, 2)", x.book(0, 2), Checks.BEYOND);
        c.due("book(0, -1)", x.book(0, -1), Checks.BEYOND);
        for (int far : Checks.FAR_OFF) {
            c.due("book(" + far + ", 0)", x.book(far, 0), Checks.BEYOND);
            c.due("book(0, " + far + ")", x.book(0, far), Checks.BEYOND);
        }
    }

    private static void read() {
        MoleSecrets x = Checks.of("digger 0 3; mole 20 21");
        x.sheet(0, 8, 1);
        c.due("read(0, 0), where it is", x.read(0, 0), 180);
        x.write(0, 0, 1);
        c.due("read(0, 0), where it isn't", x.read(0, 0), 0);
        // From 0 to 1 and 2 in earth: a DIGGER to 2, 3, 4, 5 (those of other rows are by ROWS first).
        x.sheet(0, 16, 3);
        x.write(0, 1, 1);
        x.write(0, 2, 2);
        // A HURRIER, who digs and goes in a MINUTE, goes by COLUMNS first: to 28 - 4 ends of columns 2 to 5.
        c.due("read(0, 0)", x.read(0, 0), 4 + 20);
        // A MINUTE to dig, one to go: a MOLE or a CARRIER, to each of 25 ENDS in another COLUMN.
        x.write(0, 1, 0);
        x.write(0, 2, 1);
        c.due("read(0, 0), of others", x.read(0, 0), 50);
        String was = Checks.state(x);
        x.read(0, 0);
        c.same("read(0, 0)", Checks.state(x), was);
        x.sheet(1, 64, 0);
        c.due("read(1, 1), of no numbers", x.read(1, 1), 180);
        x.sheet(1, 64, 1);
        x.write(1, 0, 20 + (1L << 32));
        c.due("read(1, 1), far off", x.read(1, 1), 0);
        x.write(1, 0, 20);
        c.due("read(1, 1)", x.read(1, 1), 180);
        c.due("read(-1, 0)", x.read(-1, 0), Checks.BEYOND);
        c.due("read(4, 0)", x.read(4, 0), Checks.BEYOND);
        c.due("read(3, 9)", x.read(3, 9), Checks.MISSING);
        c.due("read(0, 2)", x.read(0, 2), Checks.BEYOND);
        c.due("read(0, -1)", x.read(0, -1), Checks.BEYOND);
        for (int far : Checks.FAR_OFF) {
            c.due("read(" + far + ", 0)", x.read(far, 0), Checks.BEYOND);
            c.due("read(0, " + far + ")", x.read(0, far), Checks.BEYOND);
        }
    }
}
