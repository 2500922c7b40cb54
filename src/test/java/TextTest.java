/** Promises 25 to 27: feed, wipe, shire. */
public final class TextTest {
    private static final Checks c = new Checks("TextTest");

    public static void main(String[] args) {
        feed();
        wipe();
        itemsTaken();
        texts();
        seventh();
        faultChangesNothing();
        c.end();
    }

    private static void feed() {
        MoleSecrets x = new MoleSecrets();
        // Only the lowest bytes come, the highest of these first: "dug" " 1" "2;" "dug " "7".
        c.due("feed(dug)", x.feed(0x7F647567, 3), 3);
        c.due("feed( 1)", x.feed(0x64642031, 2), 5);
        c.due("feed(2)", x.feed(0xFFFFFF32, 1), 6);
        c.due("feed(;dug)", x.feed(0x3B647567, 4), 10);
        c.due("feed(7)", x.feed(0x37, 1), 11);
        c.due("count(1)", x.count(1), 11);
        c.due("shire()", x.shire(), 2);
        c.due("now(1)", x.now(1), 1 << 12 | 1 << 7);
        for (int n : new int[] {-1, 0, 5, Integer.MIN_VALUE, Integer.MAX_VALUE}) {
            c.due("feed(0, " + n + ")", x.feed(0, n), Checks.BEYOND);
        }
        for (int i = 1; i <= 29; i++) {
            c.due("feed(0, 4)", x.feed(0x20202020, 4), 4 * i);
        }
        c.due("feed(0, 2)", x.feed(0x2020, 2), 118);
        c.due("feed(0, 3)", x.feed(0, 3), Checks.FULL);
        c.due("feed(0, 4)", x.feed(0, 4), Checks.FULL);
        c.due("count(1)", x.count(1), 118);
        c.due("feed(0, 2)", x.feed(0x2020, 2), 120);
        c.due("feed(0, 1)", x.feed(0, 1), Checks.FULL);
        c.due("feed(0, 5)", x.feed(0, 5), Checks.BEYOND);
        c.due("shire()", x.shire(), -121);
    }

    private static void wipe() {
        MoleSecrets x = new MoleSecrets();
        x.feed(0x646464, 3);
        c.due("wipe()", x.wipe(), 3);
        c.due("count(1)", x.count(1), 0);
        c.due("wipe()", x.wipe(), 0);
        c.due("shire()", Checks.play(x, "dug 3"), 1);
        c.due("cellOf(3, 0)", x.cellOf(3, 0), 1);
        // What a longer text left behind is none of the next one's bytes.
        Checks.feedText(x, "dug 19;dugs");
        x.wipe();
        c.due("shire()", Checks.play(x, "dug 1"), 1);
        c.due("now(1)", x.now(1), 8 | 2);
        Checks.feedText(x, "dug 1;dugs");
        x.wipe();
        c.due("shire()", Checks.play(x, "dug 1;dug"), -10);
    }

    private static void itemsTaken() {
        MoleSecrets x = new MoleSecrets();
        c.due("shire()", Checks.play(x, "hurrier 3 4;master 5 6;retired 7 8;carrier 9 10;digger 11 12;mole 13 14"), 6);
        c.due("count(1)", x.count(1), 0);
        c.due("count(0)", x.count(0), 6);
        for (int mole = 0; mole < 6; mole++) {
            int[] due = {5 - mole, 3 + 2 * mole, 3 + 2 * mole, 4 + 2 * mole, 1, 0, -1};
            for (int what = 0; what <= 6; what++) {
                c.due("of(" + mole + ", " + what + ")", x.of(mole, what), due[what]);
            }
        }
        c.due("shire()", Checks.play(x, "secret 0 3; secret 1 5; secret 0 13; dug 0; dug 29"), 5);
        c.due("where(0)", x.where(0), 13);
        c.due("where(1)", x.where(1), 5);
        c.due("now(1)", x.now(1), 1 | 1 << 29);
        x.minutes(1);
        c.due("of(5, 6)", x.of(5, 6), 0);
        // Nobody CARRIES it any more, and what is there stays.
        c.due("shire()", Checks.play(x, "secret 0 20"), 1);
        c.due("of(5, 6)", x.of(5, 6), -1);
        c.due("where(0)", x.where(0), 20);
        c.due("of(1, 6)", x.of(1, 6), 1);
        c.due("count(0)", x.count(0), 6);
        c.due("now(0)", x.now(0), 1);
    }

    private static void texts() {
        text("", -1);
        text(" ", -2);
        text("   ", -4);
        text("dug 3", 1);
        text("dug3", 1);
        text("  dug   3  ", 1);
        text("dug 3;dug 4", 2);
        text("dug 3 ; dug 4;dug3", 3);
        text("dug 0;dug 29", 2);
        text("dug", -4);
        text("dug ", -5);
        text("dug 30", -5);
        text("dug 029", 1);
        text("dug 0000000000029", 1);
        text("dug 999", -5);
        text("dug 1000", -5);
        text("dug 4294967296", -5);
        text("dug 18446744073709551616", -5);
        text("dug 3;", -7);
        text("dug 3; ", -8);
        text(";dug 3", -1);
        text("dug 3;;dug 4", -7);
        text("dug 3 4", -7);
        text("dug 3 dug 4", -7);
        text("dug 3dug 4", -6);
        text("dug x", -5);
        text("dug dug", -5);
        text("dug ;", -5);
        text("dug -3", -5);
        text("dug\t3", -4);
        text("dug\n3", -4);
        text("Dug 3", -1);
        text("dug 3!", -6);
        text("dug 3:", -6);
        text("dug 3 \u0000", -7);
        text("dugs 3", -1);
        text("bug 3", -1);
        text("dua 3", -1);
        text("duga 3", -1);
        text("dugz 3", -1);
        text("dug 3z", -6);
        text("nole 1 2", -1);
        text("du 3", -1);
        text("du g 3", -1);
        text("3", -1);
        text("dug 3; 4", -8);
        text("dug 3; heap 4", -8);
        text("\u00e9", -1);
        text("\u00ff", -1);
        text("mole 1 2", 1);
        text("mole1 2", 1);
        text("mole 12", -8);
        text("mole 1", -7);
        text("mole 1;", -7);
        text("mole 1 2 3", -10);
        text("mole 30 1", -6);
        text("mole 1 30", -8);
        text("mole 0 29", 1);
        text("moles 1 2", -1);
        text("secret 5 29", 1);
        text("secret 6 1", -8);
        text("secret 0 30", -10);
        text("secret 0", -9);
        text("secret", -7);
        text("secrets 0 1", -1);
        text("secret 0 1;secret 5 0;dug 1;mole 2 3", 4);
        text("master 0 1 ;hurrier 2 3", 2);
    }

    private static void text(String text, int due) {
        MoleSecrets x = new MoleSecrets();
        c.due("shire() of '" + text + "'", Checks.play(x, text), due);
        c.due("count(1) behind it", x.count(1), 0);
    }

    private static void seventh() {
        c.due("seven at once", new7("mole 0 1;mole 0 1;mole 0 1;mole 0 1;mole 0 1;mole 0 1;mole 0 1", 0), -55);
        c.due("six at once", new7("mole 0 1;mole 0 1;mole 0 1;mole 0 1;mole 0 1;mole 0 1", 0), 6);
        c.due("a 7th", new7("mole 0 1; digger 0 1", 5), -11);
        c.due("a 6th", new7("mole 0 1; dug 4", 5), 2);
        c.due("the 7th ahead of its NUMBERS", new7("mole 99 1", 6), -1);
        c.due("the 7th ahead of an end", new7("dug 1;  mole", 6), -9);
        c.due("a FAULT ahead of the 7th", new7("dug 99; mole 0 1", 6), -5);
        c.due("others with six", new7("dug 1; secret 0 1", 6), 2);
    }

    private static int new7(String text, int there) {
        MoleSecrets x = new MoleSecrets();
        for (int i = 0; i < there; i++) {
            x.mole(0, 0, 1);
        }
        return Checks.play(x, text);
    }

    private static void faultChangesNothing() {
        MoleSecrets x = Checks.of("mole 0 5; secret 0 0");
        x.minutes(1);
        String was = Checks.state(x);
        c.due("shire()", Checks.play(x, "dug 7; digger 4 9; secret 0 20; secret 1 21; dug 30"), -50);
        c.same("a FAULT", Checks.state(x), was);
        c.due("status(-1)", x.status(-1), 0);
    }
}
