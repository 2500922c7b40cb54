/** All that an object holds but status(), read out by calls (which use it up), and shires to read it out of. */
final class Everything {
    private Everything() {
    }

    static String of(MoleSecrets x) {
        StringBuilder all = new StringBuilder();
        for (int s = 0; s < 4; s++) {
            sheet(all, x, s);
        }
        section1(all, x);
        all.append("tape ").append(x.count(1)).append(" comes to ").append(x.shire()).append(": ");
        section1(all, x);
        all.append("image of ").append(x.undo()).append(": ");
        section1(all, x);
        return all.toString();
    }

    /** What is written is cut to the sheet's bits, so that the second round tells them. */
    private static void sheet(StringBuilder all, MoleSecrets x, int s) {
        all.append("sheet ").append(s).append(": ");
        for (int round = 0; round < 2; round++) {
            long was = 0;
            for (int i = 0; i <= 40 && was != Checks.BEYOND && was != Checks.MISSING; i++) {
                was = x.write(s, i, 0x7BCDEF0198765432L);
                all.append(was).append(' ');
            }
        }
    }

    private static void section1(StringBuilder all, MoleSecrets x) {
        all.append("MINUTE ").append(x.now(0)).append(" DUG ").append(x.now(1)).append(" HEAPS ");
        for (int cell = 0; cell < 30; cell++) {
            all.append(x.cellOf(cell, 1)).append(' ');
        }
        all.append("SECRETS ");
        for (int secret = 0; secret < 6; secret++) {
            all.append(x.where(secret)).append(' ');
        }
        for (int mole = 0; mole < x.count(0); mole++) {
            all.append("MOLE ").append(mole).append(": ");
            for (int what = 0; what <= 6; what++) {
                all.append(x.of(mole, what)).append(' ');
            }
        }
    }

    /** Three moles, a secret out, two carried, one that lies; sheets of all bits; a tape; an image of earlier. */
    static MoleSecrets some() {
        MoleSecrets x = new MoleSecrets();
        x.mole(1, 0, 3);
        x.mole(0, 6, 11);
        x.mole(5, 29, 12);
        x.tell(0, 0);
        x.tell(1, 6);
        x.tell(4, 29);
        x.cell(20, 0, 1);
        x.minutes(2);
        x.image();
        x.minutes(2);
        x.tell(5, 17);
        x.cell(17, 1, 99);
        x.set(1, 5, 9999);
        sheets(x);
        Checks.feedText(x, "dug 17;mole 3 4");
        return x;
    }

    private static void sheets(MoleSecrets x) {
        x.sheet(0, 8, 3);
        x.sheet(1, 16, 4);
        x.sheet(2, 64, 2);
        for (int i = 0; i < 2; i++) {
            x.write(0, i, 5 + i);
            x.write(1, i, 1);
            x.write(2, i, 3000000000L + i);
        }
    }

    /** As some(), with six moles and a tape of 120 bytes. */
    static MoleSecrets full() {
        MoleSecrets x = some();
        for (int kind = 2; kind < 5; kind++) {
            x.mole(kind, 13, 28);
        }
        x.wipe();
        Checks.feedText(x, "dug 17" + " ".repeat(107) + ";dug 29");
        return x;
    }

    /** Nothing but tunnel, and nobody in it. */
    static MoleSecrets tunnel() {
        MoleSecrets x = new MoleSecrets();
        x.sheet(3, 8, 30);
        for (int i = 0; i < 30; i++) {
            x.write(3, i, 1);
        }
        x.lays(3);
        x.sheet(3, 0, 0);
        return x;
    }

    /** A tunnel with moles of these kinds, all from one cell to one cell. */
    static MoleSecrets tunnelOf(int home, int end, int... kinds) {
        MoleSecrets x = tunnel();
        for (int kind : kinds) {
            x.mole(kind, home, end);
        }
        return x;
    }

    /** Earth with one mole. */
    static MoleSecrets one(int kind, int home, int end) {
        MoleSecrets x = new MoleSecrets();
        x.mole(kind, home, end);
        return x;
    }
}
