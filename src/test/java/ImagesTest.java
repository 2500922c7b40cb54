/** Promises 34 to 38: image, undo, tear, count, status. */
public final class ImagesTest {
    private static final Checks c = new Checks("ImagesTest");

    public static void main(String[] args) {
        imageAndUndo();
        latest();
        notKept();
        tear();
        count();
        status();
        eachFinding();
        c.end();
    }

    private static void change(MoleSecrets x) {
        x.minutes(7);
        x.cell(22, 0, 1);
        x.cell(23, 1, 9);
        x.tell(4, 25);
        x.tell(0, -1);
        x.turn(0, 4);
        for (int what = 1; what <= 3; what++) {
            x.set(1, what, 26);
        }
        x.set(1, 4, 0);
        x.set(1, 5, 8888);
        x.mole(3, 9, 10);
    }

    private static void imageAndUndo() {
        MoleSecrets x = Checks.of("digger 0 3; mole 6 11; secret 0 0; secret 1 0; secret 2 6; dug 20");
        x.minutes(4);
        x.cell(20, 1, 6);
        c.due("image()", x.image(), 1);
        String was = Checks.state(x);
        change(x);
        c.due("undo()", x.undo(), 2);
        c.same("undo()", Checks.state(x), was);
        // It stays, whatever comes behind an undo.
        change(x);
        c.due("undo()", x.undo(), 2);
        c.same("undo()", Checks.state(x), was);
        x.minutes(20);
        x.undo();
        MoleSecrets y = Checks.of("digger 0 3; mole 6 11; secret 0 0; secret 1 0; secret 2 6; dug 20");
        y.minutes(4);
        y.cell(20, 1, 6);
        x.minutes(20);
        y.minutes(20);
        c.same("minutes(20) behind undo()", Checks.state(x), Checks.state(y));
    }

    private static void latest() {
        MoleSecrets x = new MoleSecrets();
        x.image();
        x.mole(0, 0, 1);
        x.image();
        x.mole(0, 0, 1);
        c.due("undo()", x.undo(), 1);
        c.due("undo()", x.undo(), 1);
        c.due("count(0)", x.count(0), 1);
    }

    private static void notKept() {
        MoleSecrets x = new MoleSecrets();
        x.sheet(0, 8, 2);
        x.write(0, 0, 5);
        x.feed(0x20, 1);
        x.image();
        x.feed(0x2020, 2);
        x.write(0, 0, 6);
        x.sheet(1, 16, 1);
        x.where(9);
        c.due("undo()", x.undo(), 0);
        c.due("count(1)", x.count(1), 3);
        c.due("write(0, 0, 0)", x.write(0, 0, 0), 6);
        c.due("write(1, 0, 0)", x.write(1, 0, 0), 0);
        c.due("status(0)", x.status(0), 1);
    }

    private static void tear() {
        MoleSecrets x = new MoleSecrets();
        c.due("tear()", x.tear(), 0);
        x.image();
        c.due("tear()", x.tear(), 1);
        c.due("tear()", x.tear(), 0);
        c.due("undo()", x.undo(), Checks.NONE);
        x.image();
        x.mole(0, 0, 1);
        x.image();
        c.due("tear()", x.tear(), 1);
        c.due("undo()", x.undo(), Checks.NONE);
        c.due("count(0)", x.count(0), 1);
        c.due("image()", x.image(), 1);
        c.due("undo()", x.undo(), 1);
    }

    private static void count() {
        MoleSecrets x = Checks.of("mole 0 1; mole 0 1; dug 0; dug 29; dug 7");
        x.cell(3, 1, 99);
        x.cell(29, 1, 1);
        x.cell(0, 1, 1);
        x.feed(0, 4);
        c.due("count(0)", x.count(0), 2);
        c.due("count(1)", x.count(1), 4);
        c.due("count(2)", x.count(2), 3);
        c.due("count(3)", x.count(3), 101);
        c.due("count(-1)", x.count(-1), Checks.BEYOND);
        c.due("count(4)", x.count(4), Checks.BEYOND);
        for (int far : Checks.FAR_OFF) {
            c.due("count(" + far + ")", x.count(far), Checks.BEYOND);
        }
    }

    private static void status() {
        MoleSecrets x = new MoleSecrets();
        c.due("status(-1)", x.status(-1), 0);
        c.due("status(7)", x.status(7), Checks.BEYOND);
        c.due("status(0)", x.status(0), 1);
        c.due("status(-2)", x.status(-2), Checks.BEYOND);
        c.due("status(-1)", x.status(-1), 2);
        for (int far : Checks.FAR_OFF) {
            c.due("status(" + far + ")", x.status(far), Checks.BEYOND);
        }
        c.due("status(0)", x.status(0), 6);
        x.image();
        x.where(-1);
        x.undo();
        c.due("status(0)", x.status(0), 7);
    }

    /** Each call's findings are counted, once each, under their own. */
    private static void eachFinding() {
        MoleSecrets x = Checks.of("mole 0 1;mole 0 1;mole 0 1;mole 0 1;mole 0 1;mole 0 1");
        int[] due = new int[7];
        x.sheet(0, 8, 1);
        x.sheet(1, 16, 1);
        int[] answers = {
            x.cell(30, 0, 0), x.cellOf(30, 0), x.tell(6, 0), x.where(6), x.now(6), x.mole(6, 0, 0), x.mole(0, 0, 0),
            x.of(6, 0), x.charges(6, 0), x.set(6, 1, 0), x.turn(6, 0), x.as(6, 0), x.as(0, 1), x.minutes(0),
            x.on(6, 0, 0), x.then(6, 0), x.out(6), x.out(0), x.dug(30), x.dug(29), x.comes(6, 0), x.comes(0, 29),
            x.kind(6, 0), x.lead(6, 1), x.dig(0), x.leave(6), x.dismiss(0), x.richest(-1), x.feed(0, 0),
            x.sheet(4, 8, 1), x.sheet(0, 8, -1), (int) x.write(4, 0, 0), (int) x.write(2, 0, 0), (int) x.write(0, 1, 0),
            x.copy(4, 0, 0, 0, 0), x.copy(2, 0, 0, 0, 0), x.copy(0, 0, 1, 0, 0), x.copy(0, 2, 0, 0, 0),
            x.lays(4), x.lays(2), x.book(4, 0), x.book(2, 0), x.book(0, 6), x.read(4, 0), x.read(2, 0), x.read(0, 6),
            x.undo(), x.count(4), x.status(7)};
        for (int answer : answers) {
            int which = Checks.BEYOND - answer;
            c.due("a finding", which >= 0 && which < 7 ? 1 : 0, 1);
            if (which >= 0 && which < 7) {
                due[which]++;
            }
        }
        int[] expected = {36, 1, 2, 4, 0, 5, 1};
        int all = 0;
        for (int which = 0; which < 7; which++) {
            c.due("findings " + which, due[which], expected[which]);
            c.due("status(" + which + ")", x.status(which), expected[which]);
            all += expected[which];
        }
        c.due("status(-1)", x.status(-1), all);
    }
}
