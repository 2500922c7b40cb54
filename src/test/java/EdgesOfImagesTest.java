import java.io.IOException;

/** Boundaries of promises 34 to 38: image, undo, tear, count, status. */
public final class EdgesOfImagesTest {
    private static Edges e;

    public static void main(String[] args) throws IOException {
        e = new Edges("EdgesOfImagesTest");
        image();
        imageOfNothingAndOfAll();
        imageOfEachMole();
        imageNotOfTheTape();
        undo();
        undoNothingKept();
        tear();
        count();
        countAtMost();
        status();
        statusOfEach();
        statusBeyond();
        e.whole(34, 38);
        e.end();
    }

    /** Some of each that section 1 tells becomes something else. */
    private static void change(MoleSecrets x) {
        x.minutes(3);
        for (int cell : new int[] {0, 3, 7, 17, 24, 29}) {
            x.cell(cell, 0, 1 - x.cellOf(cell, 0));
            x.cell(cell, 1, 99 - x.cellOf(cell, 1));
        }
        for (int mole = 0; mole < x.count(0); mole++) {
            x.turn(mole, 5 - x.of(mole, 0));
            x.set(mole, 1, 29 - x.of(mole, 1));
            x.set(mole, 2, 29 - x.of(mole, 2));
            x.set(mole, 3, 29 - x.of(mole, 3));
            x.set(mole, 4, 1 - x.of(mole, 4));
            x.set(mole, 5, 9999 - x.of(mole, 5));
        }
        for (int secret = 0; secret < 6; secret++) {
            x.tell(secret, 14);
        }
    }

    private static void image() {
        e.at(34, "All that section 1 tells (THE TAPE not) is kept: 1.");
        MoleSecrets x = Everything.some();
        e.due("image()", x.image(), 1);
        e.due("image() again", x.image(), 1);
        change(x);
        x.mole(3, 1, 2);
        x.undo();
        MoleSecrets twin = Everything.some();
        twin.image();
        e.alike("image(), changes, undo()", x, twin);
        // It goes on as it would have.
        MoleSecrets on = Everything.some();
        on.image();
        change(on);
        on.undo();
        MoleSecrets plain = Everything.some();
        e.due("minutes(50)", on.minutes(50), plain.minutes(50));
        plain.image();
        on.image();
        e.alike("50 MINUTES behind undo()", on, plain);
    }

    private static void imageOfNothingAndOfAll() {
        MoleSecrets x = new MoleSecrets();
        x.image();
        x.mole(0, 0, 1);
        change(x);
        e.due("undo(), of nobody", x.undo(), 0);
        MoleSecrets twin = new MoleSecrets();
        twin.image();
        e.alike("an image of nothing", x, twin);
        MoleSecrets full = Everything.full();
        full.image();
        change(full);
        e.due("undo(), of six", full.undo(), 6);
        MoleSecrets other = Everything.full();
        other.image();
        e.alike("an image of six", full, other);
    }

    /** Each of six, and each of what it has, is kept for itself. */
    private static void imageOfEachMole() {
        MoleSecrets x = Everything.tunnelOf(0, 5, 0, 1, 2, 3, 4, 5);
        int[] kept = {0, 7, 8, 9, 0, 11};
        for (int mole = 0; mole < 6; mole++) {
            for (int what = 1; what <= 5; what++) {
                x.set(mole, what, what == 4 ? 0 : kept[what] + mole);
            }
        }
        x.image();
        for (int mole = 0; mole < 6; mole++) {
            x.turn(mole, 5 - mole);
            for (int what = 1; what <= 5; what++) {
                x.set(mole, what, 1);
            }
        }
        x.undo();
        for (int mole = 0; mole < 6; mole++) {
            e.due("of(" + mole + ", 0)", x.of(mole, 0), mole);
            for (int what = 1; what <= 5; what++) {
                e.due("of(" + mole + ", " + what + ")", x.of(mole, what), what == 4 ? 0 : kept[what] + mole);
            }
        }
    }

    private static void imageNotOfTheTape() {
        e.at(34, "(THE TAPE not)");
        MoleSecrets x = Everything.some();
        x.image();
        x.wipe();
        x.undo();
        e.due("count(1), wiped", x.count(1), 0);
        MoleSecrets y = Everything.some();
        y.wipe();
        y.image();
        Checks.feedText(y, "dug 9");
        y.undo();
        e.due("count(1), fed", y.count(1), 5);
        e.due("shire()", y.shire(), 1);
        // Nor of sheets, of which section 3 tells.
        MoleSecrets z = Everything.some();
        z.image();
        z.write(0, 0, 77);
        z.sheet(1, 0, 0);
        z.sheet(3, 16, 1);
        z.undo();
        e.due("write(0, 0, 0)", z.write(0, 0, 0), 77);
        e.due("write(1, 0, 0)", z.write(1, 0, 0), Checks.MISSING);
        e.due("write(3, 0, 0)", z.write(3, 0, 0), 0);
    }

    private static void undo() {
        e.at(35, "It becomes what was kept latest (which stays): how many MOLES.");
        MoleSecrets x = new MoleSecrets();
        x.image();
        x.mole(0, 0, 1);
        x.image();
        x.mole(0, 0, 1);
        e.due("undo()", x.undo(), 1);
        e.due("undo(), it stays", x.undo(), 1);
        for (int i = 0; i < 5; i++) {
            x.mole(0, 0, 1);
        }
        e.due("mole(0, 0, 1)", x.mole(0, 0, 1), Checks.FULL);
        e.due("undo(), it stays still", x.undo(), 1);
        e.due("count(0)", x.count(0), 1);
        // What is changed behind undo() doesn't change what is kept.
        x.set(0, 5, 9999);
        x.cell(4, 1, 9);
        x.undo();
        e.due("of(0, 5)", x.of(0, 5), 0);
        e.due("cellOf(4, 1)", x.cellOf(4, 1), 0);
    }

    private static void undoNothingKept() {
        e.at(35, "NONE: nothing is kept.");
        e.refused("undo(), never kept", Everything::tunnel, x -> x.undo(), Checks.NONE);
        e.refused("undo(), torn", EdgesOfImagesTest::torn, x -> x.undo(), Checks.NONE);
        MoleSecrets x = torn();
        x.image();
        e.due("undo(), kept again", x.undo(), 3);
    }

    private static MoleSecrets torn() {
        MoleSecrets x = Everything.some();
        x.tear();
        return x;
    }

    private static void tear() {
        e.at(36, "Nothing is kept: 1 if something was, else 0.");
        e.due("tear(), never kept", new MoleSecrets().tear(), 0);
        MoleSecrets x = Everything.some();
        e.due("tear()", x.tear(), 1);
        e.due("tear() again", x.tear(), 0);
        e.due("undo()", x.undo(), Checks.NONE);
        // Two images are torn at once.
        x.image();
        x.image();
        e.due("tear(), of two", x.tear(), 1);
        e.due("tear() again", x.tear(), 0);
        // undo() keeps what is kept.
        x.image();
        x.undo();
        e.due("tear(), behind undo()", x.tear(), 1);
        // All but what is kept is as it was.
        MoleSecrets y = Everything.some();
        y.image();
        y.tear();
        y.image();
        MoleSecrets twin = Everything.some();
        twin.image();
        e.alike("tear()", y, twin);
    }

    private static void count() {
        e.at(37, "0 MOLES, 1 bytes of THE TAPE, 2 cells that are DUG, 3 HEAPS of all cells together.");
        int[] some = {3, 15, 12, 100};
        MoleSecrets none = new MoleSecrets();
        MoleSecrets x = Everything.some();
        for (int what = 0; what <= 3; what++) {
            e.due("count(" + what + ") of nothing", none.count(what), 0);
            e.due("count(" + what + ")", x.count(what), some[what]);
        }
        e.at(37, "BEYOND: another what.");
        e.within("count(v)", Everything::some, (y, v) -> y.count(v), 0, 3, 3, 100);
    }

    private static void countAtMost() {
        e.at(37, "cells that are DUG, 3 HEAPS of all cells together");
        MoleSecrets x = Everything.full();
        e.due("count(0), six", x.count(0), 6);
        e.due("count(1), 120", x.count(1), 120);
        for (int cell = 0; cell < 30; cell++) {
            x.cell(cell, 0, 1);
            x.cell(cell, 1, 99);
        }
        e.due("count(2), all", x.count(2), 30);
        e.due("count(3), 99 in each", x.count(3), 2970);
    }

    private static void status() {
        e.at(38, "How many acts answered a finding ever (undo() takes none back)");
        MoleSecrets x = new MoleSecrets();
        x.image();
        x.where(6);
        x.undo();
        e.due("status(0)", x.status(0), 1);
        e.due("status(-1)", x.status(-1), 1);
        x.tear();
        x.undo();
        e.due("status(3)", x.status(3), 1);
        e.due("status(-1)", x.status(-1), 2);
        // A FAULT is no finding, nor is an answer below 0 of another kind.
        Checks.play(x, "dug 30");
        x.where(0);
        x.tell(0, -1);
        e.due("status(-1)", x.status(-1), 2);
    }

    private static void statusOfEach() {
        e.at(38, "which -1: all, 0 to 6: BEYOND to SIZE.");
        MoleSecrets x = Everything.full();
        int[] due = new int[7];
        x.where(6);
        due[0]++;
        x.mole(0, 0, 0);
        x.feed(0, 1);
        due[1] += 2;
        x.as(1, 1);
        x.copy(0, 0, 1, 0, 1);
        x.as(1, 5);
        due[2] += 3;
        for (int i = 0; i < 4; i++) {
            x.out(2);
            due[3]++;
        }
        for (int i = 0; i < 5; i++) {
            x.lays(3);
            due[5]++;
        }
        for (int i = 0; i < 6; i++) {
            x.sheet(0, 8, -1);
            due[6]++;
        }
        for (int which = 0; which <= 6; which++) {
            e.due("status(" + which + ")", x.status(which), due[which]);
        }
        e.due("status(-1)", x.status(-1), 21);
        e.due("status(-1), not by itself", x.status(-1), 21);
    }

    private static void statusBeyond() {
        e.at(38, "BEYOND (counted from then on): another one.");
        MoleSecrets x = new MoleSecrets();
        int all = 0;
        for (int which : new int[] {-2, 7, Integer.MIN_VALUE, Integer.MAX_VALUE, Checks.BEYOND}) {
            e.due("status(" + which + ")", x.status(which), Checks.BEYOND);
            all++;
            e.due("status(0)", x.status(0), all);
            e.due("status(-1)", x.status(-1), all);
        }
        e.within("status(v)", Everything::some, (y, v) -> y.status(v), -1, 0, 6, 0);
    }
}
