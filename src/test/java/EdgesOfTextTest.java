import java.io.IOException;

/** Boundaries of promises 25 to 27, and of the terms about THE TEXT: feed, wipe, shire. */
public final class EdgesOfTextTest {
    private static final String SIX = "mole0 1;mole0 1;mole0 1;mole0 1;mole0 1;mole0 1";
    private static Edges e;

    public static void main(String[] args) throws IOException {
        e = new Edges("EdgesOfTextTest");
        tapeAtMost120();
        tokensAsLongAsCanBe();
        lettersAToZ();
        numbers999AtMost();
        signsAndBlanks();
        itemBehindItem();
        itemsOfMoles();
        itemsOfDug();
        itemsOfSecret();
        firstTokenThatCantStandThere();
        aByteThatBeginsNoToken();
        aSeventh();
        endsTooEarly();
        e.wholeOfTerms("MINUTE is 1 more.", "``` 2.");
        feed();
        feedBeyond();
        feedFull();
        wipe();
        shire();
        shireWithAFault();
        e.whole(25, 27);
        e.end();
    }

    private static void text(String text, int due) {
        MoleSecrets x = new MoleSecrets();
        e.due("shire() of '" + text + "'", Checks.play(x, text), due);
    }

    private static void tapeAtMost120() {
        e.at(Doc.TERMS, "THE TEXT of a SHIRE, from THE TAPE (bytes, at most 120).");
        String most = "dug0;".repeat(23) + "dug29";
        e.due("bytes of the text", most.length(), 120);
        MoleSecrets x = new MoleSecrets();
        Checks.feedText(x, most);
        e.due("count(1)", x.count(1), 120);
        e.due("feed(32, 1)", x.feed(32, 1), Checks.FULL);
        e.due("shire(), as many ITEMS as can be", x.shire(), 24);
        e.due("now(1)", x.now(1), 1 + (1 << 29));
        text("dug0;".repeat(24), -121);
        text(" ".repeat(115) + "dug29", 1);
        text("dug29" + " ".repeat(115), 1);
        text("dug " + "0".repeat(114) + "29", 1);
        text("d".repeat(120), -1);
        text("dug 1" + ";".repeat(115), -7);
    }

    private static void tokensAsLongAsCanBe() {
        e.at(Doc.TERMS, "TOKENS, each as long as can be");
        text("dugdug 1", -1);
        text("dugs 1", -1);
        text("du g 1", -1);
        text("mole 12", -8);
        text("mole 1 2", 1);
        text("mole1 2", 1);
        text("mole 1 2mole 3 4", -9);
        text("dug 290", -5);
        text("dug 2 9", -7);
        text("secret 0 290", -10);
    }

    private static void lettersAToZ() {
        e.at(Doc.TERMS, "WORDS (letters a to z)");
        // The signs ahead of a and behind z, and great letters, begin no TOKEN, and end one.
        for (char sign : new char[] {'`', '{', '@', '[', 'A', 'Z', '_', 128, 255}) {
            text(sign + "dug 1", -1);
            text("dug" + sign + " 1", -4);
            text("dug 1" + sign, -6);
        }
        // a and z are letters: they make the WORD longer, or begin one that can't stand there.
        for (char letter : new char[] {'a', 'z'}) {
            text("dug" + letter + " 1", -1);
            text("dug 1" + letter, -6);
            text("dug " + letter, -5);
            text(letter + " 1", -1);
        }
        text("DUG 1", -1);
        text("dUg 1", -1);
    }

    private static void numbers999AtMost() {
        e.at(Doc.TERMS, "NUMBERS (digits, 999 at most)");
        for (String number : new String[] {"30", "99", "100", "999", "1000", "65536", "2147483648", "4294967296",
            "4294967325", "18446744073709551616", "18446744073709551645"}) {
            text("dug " + number, -5);
            text("secret " + number + " 1", -8);
            text("secret 1 " + number, -10);
            text("mole " + number + " 1", -6);
        }
        text("dug 0", 1);
        text("dug 9", 1);
        // The signs ahead of 0 and behind 9.
        text("dug 1/", -6);
        text("dug 1:", -6);
        text("dug /", -5);
        text("dug :", -5);
        // Noughts ahead make it no greater.
        text("dug 029", 1);
        text("dug 0030", -5);
    }

    private static void signsAndBlanks() {
        e.at(Doc.TERMS, "SIGN ; ; blanks may stand between");
        text("dug 1;dug 2", 2);
        text("  dug  1  ;  dug  2  ", 2);
        text("dug1;dug2", 2);
        text("dug 1 ; dug 2", 2);
        text("dug 1:dug 2", -6);
        text("dug 1<dug 2", -6);
        for (char sign : new char[] {31, 33, 9, 10, 13, 0, 160}) {
            text("dug" + sign + "1", -4);
            text("dug 1" + sign, -6);
            text(sign + "dug 1", -1);
        }
    }

    private static void itemBehindItem() {
        e.at(Doc.TERMS, "TEXT: ITEM { ; ITEM }.");
        text("dug 1", 1);
        text("dug 1;dug 1", 2);
        text("dug 1;dug 1;dug 1", 3);
        text("", -1);
        text(";", -1);
        text("dug 1;", -7);
        text(";dug 1", -1);
        text("dug 1;;dug 2", -7);
        text("dug 1 dug 2", -7);
        text("dug 1 1", -7);
        text("1", -1);
        text("dug 1;1", -7);
    }

    private static void itemsOfMoles() {
        e.at(Doc.TERMS, "the name of a KIND (mole digger carrier retired master hurrier), two NUMBERS (HOME, where it is AT, too; END):"
            + " one more");
        String[] names = {"mole", "digger", "carrier", "retired", "master", "hurrier"};
        for (int kind = 0; kind < 6; kind++) {
            MoleSecrets x = Everything.one(0, 1, 2);
            e.due("shire()", Checks.play(x, names[kind] + " 0 29"), 1);
            int[] due = {kind, 0, 0, 29, 1, 0, -1};
            for (int what = 0; what <= 6; what++) {
                e.due("of(1, " + what + ")", x.of(1, what), due[what]);
            }
            int length = names[kind].length();
            text(names[kind] + " 29 0", 1);
            text(names[kind] + " 30 0", -2 - length);
            text(names[kind] + " 0 30", -4 - length);
            text(names[kind] + " 0", -3 - length);
            text(names[kind] + "s 0 1", -1);
            text(names[kind].substring(1) + " 0 1", -1);
            text(names[kind].substring(0, length - 1) + " 0 1", -1);
        }
    }

    private static void itemsOfDug() {
        e.at(Doc.TERMS, "dug, a NUMBER (a cell)");
        MoleSecrets x = new MoleSecrets();
        e.due("shire()", Checks.play(x, "dug 0"), 1);
        e.due("now(1)", x.now(1), 1);
        e.due("shire()", Checks.play(x, "dug 29"), 1);
        e.due("now(1)", x.now(1), 1 + (1 << 29));
        e.due("shire(), DUG already", Checks.play(x, "dug 0;dug 0"), 2);
        e.due("now(1)", x.now(1), 1 + (1 << 29));
        text("dug 30", -5);
        text("dug 0 0", -7);
    }

    private static void itemsOfSecret() {
        e.at(Doc.TERMS, "secret, two NUMBERS (0 to 5; a cell): it LIES there (nobody CARRIES it any more)");
        MoleSecrets x = Everything.some();
        x.wipe();
        e.due("shire()", Checks.play(x, "secret 0 0;secret 5 29;secret 1 7"), 3);
        e.due("where(0), was out", x.where(0), 0);
        e.due("where(5)", x.where(5), 29);
        e.due("where(1), was carried", x.where(1), 7);
        e.due("of(1, 6), nothing any more", x.of(1, 6), -1);
        e.due("of(2, 6), another's", x.of(2, 6), 4);
        e.due("shire(), the later is so", Checks.play(x, "secret 1 3;secret 1 4"), 2);
        e.due("where(1)", x.where(1), 4);
        text("secret 5 0", 1);
        text("secret 6 0", -8);
        text("secret 0 29", 1);
        text("secret 0 30", -10);
        text("secret 5", -9);
    }

    private static void firstTokenThatCantStandThere() {
        e.at(Doc.TERMS, "FAULT: the place (from 0) of the first byte of the first TOKEN that can't stand there (a NUMBER that may not be,"
            + " another WORD");
        text("heap 1", -1);
        for (String word : new String[] {"bug 1", "dog 1", "dun 1", "tecret 1 1", "secred 1 1", "hole 1 1", "mold 1 1"}) {
            text(word, -1);
        }
        text(" heap 1", -2);
        text("dug 1;heap 1;30", -7);
        text("dug 1; heap", -8);
        text("dug heap", -5);
        text("dug dug 1", -5);
        text("dug  30 40", -6);
        text("dug 30;heap", -5);
        text("mole 1 mole", -8);
        text("secret ; 1", -8);
        text(" ".repeat(119) + "x", -120);
        text(" ".repeat(118) + "xx", -119);
    }

    private static void aByteThatBeginsNoToken() {
        e.at(Doc.TERMS, "a byte that begins no TOKEN");
        text("-", -1);
        text("dug -1", -5);
        text("dug 1,dug 2", -6);
        text("\u0000", -1);
        text("\u00ff", -1);
        text(" \u007f", -2);
        text("mole 1 \u00e9", -8);
        // One behind a TOKEN that can't stand there isn't the first.
        text("dug 30!", -5);
    }

    private static void aSeventh() {
        e.at(Doc.TERMS, "the name of a KIND for a 7th: its own)");
        text(SIX, 6);
        text(SIX + ";hurrier0 1", -49);
        text(SIX + "; hurrier 99", -50);
        text(SIX + ";mole", -49);
        text(SIX + ";dug 1", 7);
        MoleSecrets full = Everything.full();
        full.wipe();
        e.due("shire(), of six there", Checks.play(full, "mole 0 0"), -1);
        e.due("count(1)", full.count(1), 0);
        e.due("count(0)", full.count(0), 6);
        MoleSecrets five = Everything.tunnelOf(0, 5, 0, 0, 0, 0, 0);
        e.due("shire(), a 7th behind a 6th", Checks.play(five, "mole 0 0;mole 0 0"), -10);
        e.due("count(0)", five.count(0), 5);
        e.due("shire(), a 6th", Checks.play(five, "mole 0 0"), 1);
        e.due("count(0)", five.count(0), 6);
    }

    private static void endsTooEarly() {
        e.at(Doc.TERMS, "or how many bytes there are if it ends too early.");
        text("", -1);
        text(" ", -2);
        text("dug", -4);
        text("dug ", -5);
        text("dug   ", -7);
        text("mole 1", -7);
        text("mole 1 ", -8);
        text("secret", -7);
        text("secret 1", -9);
        text("dug 1;", -7);
        text("dug 1; ", -8);
        text(" ".repeat(120), -121);
        text(" ".repeat(117) + "dug", -121);
    }

    private static void feed() {
        e.at(25, "THE TAPE gets the n lowest bytes of a number behind it, the highest of these first (n 1 to 4): how many it has.");
        MoleSecrets x = new MoleSecrets();
        e.due("feed('dug ', 4)", x.feed(0x64756720, 4), 4);
        e.due("feed('..1', 1), its lowest", x.feed(0xFFFFFF31, 1), 5);
        e.due("feed('..2;', 2)", x.feed(0x7FFF323B, 2), 7);
        e.due("feed('.dug', 3)", x.feed(0x80647567, 3), 10);
        e.due("feed('29', 2)", x.feed(0x3239, 2), 12);
        e.due("shire()", x.shire(), 2);
        e.due("now(1)", x.now(1), (1 << 12) + (1 << 29));
        // A byte above 127 is one byte, too, and none that begins a TOKEN.
        e.due("feed(-1, 4)", x.feed(-1, 4), 4);
        e.due("feed(MIN_VALUE, 4)", x.feed(Integer.MIN_VALUE, 4), 8);
        e.due("shire()", x.shire(), -1);
    }

    private static void feedBeyond() {
        e.at(25, "BEYOND: n.");
        e.within("feed(32, v)", Everything::some, (y, v) -> y.feed(0x20202020, v), 1, 16, 4, 19);
        e.refused("feed(32, 0), full", Everything::full, y -> y.feed(32, 0), Checks.BEYOND);
        e.refused("feed(32, 5), full", Everything::full, y -> y.feed(32, 5), Checks.BEYOND);
        for (int bytes : new int[] {Integer.MIN_VALUE, -1, 0, Integer.MAX_VALUE}) {
            e.due("feed(" + bytes + ", 4), any number", new MoleSecrets().feed(bytes, 4), 4);
        }
    }

    private static MoleSecrets fed(int bytes) {
        MoleSecrets x = new MoleSecrets();
        Checks.feedText(x, "dug 3;" + " ".repeat(bytes - 11) + "dug 4");
        return x;
    }

    private static void feedFull() {
        e.at(25, "FULL.");
        for (int n = 1; n <= 4; n++) {
            int bytes = n;
            e.due("feed to 120", fed(120 - n).feed(0x20202020, n), 120);
            e.refused("feed to 121", () -> fed(121 - bytes), x -> x.feed(0x20202020, bytes), Checks.FULL);
            e.refused("feed from 120", () -> fed(120), x -> x.feed(0x20202020, bytes), Checks.FULL);
        }
        MoleSecrets x = fed(117);
        e.due("feed(.., 4)", x.feed(0x20202020, 4), Checks.FULL);
        e.due("feed(.., 3), what there is room for", x.feed(0x202020, 3), 120);
        e.due("shire()", x.shire(), 2);
        e.due("feed(.., 4), room again", x.feed(0x20202020, 4), 4);
    }

    private static void wipe() {
        e.at(26, "THE TAPE is empty: how many it had.");
        e.due("wipe(), empty", new MoleSecrets().wipe(), 0);
        MoleSecrets x = Everything.full();
        e.due("wipe(), full", x.wipe(), 120);
        e.due("wipe(), empty again", x.wipe(), 0);
        e.due("count(1)", x.count(1), 0);
        e.due("feed('d', 1), room again", x.feed('d', 1), 1);
        e.due("wipe()", x.wipe(), 1);
        e.due("shire(), of nothing", x.shire(), -1);
        // What was wiped is none of the next text's.
        Checks.feedText(x, "dug 29;dug 28");
        x.wipe();
        e.due("shire()", Checks.play(x, "dug 2"), 1);
        e.due("cellOf(2, 0)", x.cellOf(2, 0), 1);
        e.due("cellOf(29, 0)", x.cellOf(29, 0), 0);
        e.due("status(-1)", x.status(-1), 0);
    }

    private static void shire() {
        e.at(27, "THE TAPE is THE TEXT of a SHIRE, whose ITEMS come to what there is, and empty then: how many ITEMS.");
        MoleSecrets x = Everything.some();
        e.due("shire()", x.shire(), 2);
        e.due("count(1)", x.count(1), 0);
        e.due("count(0)", x.count(0), 4);
        e.due("of(3, 1)", x.of(3, 1), 3);
        e.due("cellOf(17, 0)", x.cellOf(17, 0), 1);
        // What there is stays.
        MoleSecrets twin = Everything.some();
        twin.wipe();
        twin.cell(17, 0, 1);
        twin.mole(0, 3, 4);
        e.alike("shire()", x, twin);
        e.due("shire(), of nothing left", x.shire(), -1);
        // ITEMS come in their order: what one says, a later one may undo.
        MoleSecrets y = new MoleSecrets();
        e.due("shire()", Checks.play(y, "secret 0 1;secret 0 2;mole 2 3"), 3);
        e.due("where(0)", y.where(0), 2);
    }

    private static void faulty(String text, int due) {
        MoleSecrets x = Everything.some();
        MoleSecrets twin = Everything.some();
        x.wipe();
        twin.wipe();
        e.due("shire() of '" + text + "'", Checks.play(x, text), due);
        e.due("count(1)", x.count(1), 0);
        e.alike("shire() of '" + text + "'", x, twin);
    }

    private static void shireWithAFault() {
        e.at(27, "With a FAULT: -1 less its place (nothing changes but that THE TAPE is empty; no finding).");
        faulty("", -1);
        faulty("x", -1);
        faulty("dug 9;dug 30", -11);
        faulty("secret 1 3;secret 4 -1", -21);
        faulty("hurrier 1 2;", -13);
        faulty("mole 1 2;mole 1 2;mole 1 2;mole 1 2", -28);
        faulty("dug 9" + " ".repeat(114) + "x", -120);
    }
}
