import java.io.IOException;

/** Boundaries of promises 7 to 12: mole, of, charges, set, turn, as. */
public final class EdgesOfMolesTest {
    private static Edges e;

    public static void main(String[] args) throws IOException {
        e = new Edges("EdgesOfMolesTest");
        mole();
        moleFull();
        of();
        ofStepsDigsTurns();
        charges();
        set();
        setNothingElse();
        turn();
        as();
        asOneUnder();
        e.whole(7, 12);
        e.end();
    }

    private static void mole() {
        e.at(7, "One more with a HOME (where it is AT) and an END: the number.");
        MoleSecrets x = new MoleSecrets();
        int[] homes = {0, 29, 0, 29, 13, 13};
        int[] ends = {29, 0, 0, 29, 13, 14};
        for (int mole = 0; mole < 6; mole++) {
            e.due("mole(" + mole + ", ..)", x.mole(mole, homes[mole], ends[mole]), mole);
            int[] due = {mole, homes[mole], homes[mole], ends[mole], 1, 0, -1};
            for (int what = 0; what <= 6; what++) {
                e.due("of(" + mole + ", " + what + ")", x.of(mole, what), due[what]);
            }
        }
        e.due("now(1), where it is AT stays earth", x.now(1), 0);
        e.at(7, "BEYOND: kind, home, end.");
        e.within("mole(v, 0, 0)", Everything::some, (y, v) -> y.mole(v, 0, 0), 0, 3, 5, 3);
        e.within("mole(0, v, 0)", Everything::some, (y, v) -> y.mole(0, v, 0), 0, 3, 29, 3);
        e.within("mole(0, 0, v)", Everything::some, (y, v) -> y.mole(0, 0, v), 0, 3, 29, 3);
    }

    private static void moleFull() {
        e.at(7, "FULL.");
        MoleSecrets x = new MoleSecrets();
        for (int mole = 0; mole < 5; mole++) {
            x.mole(0, 0, 1);
        }
        e.due("mole(5, 29, 29), the 6th", x.mole(5, 29, 29), 5);
        e.due("mole(5, 29, 29), a 7th", x.mole(5, 29, 29), Checks.FULL);
        e.due("count(0)", x.count(0), 6);
        e.refused("mole(0, 0, 0)", Everything::full, y -> y.mole(0, 0, 0), Checks.FULL);
        // Room again with an image of fewer.
        MoleSecrets y = Everything.full();
        e.due("undo()", y.undo(), 3);
        e.due("mole(3, 4, 5)", y.mole(3, 4, 5), 3);
        int[] due = {3, 4, 4, 5, 1, 0, -1};
        for (int what = 0; what <= 6; what++) {
            e.due("of(3, " + what + "), a new one", y.of(3, what), due[what]);
        }
    }

    private static void of() {
        e.at(8, "what 0 KIND, 1 where it is AT, 2 HOME, 3 END, 4 WAY, 5 HANDS, 6 CARRIES (-1)");
        MoleSecrets x = Everything.some();
        int[][] due = {{1, 2, 0, 3, 0, 13, -1, 1, 2, 1}, {0, 8, 6, 11, 1, 9999, 1, 1, 1, 0}, {5, 24, 29, 12, 1, 12, 4, 3, 1, 0}};
        for (int mole = 0; mole < 3; mole++) {
            for (int what = 0; what <= 9; what++) {
                e.due("of(" + mole + ", " + what + ")", x.of(mole, what), due[mole][what]);
            }
        }
        e.at(8, "BEYOND.");
        e.within("of(v, 1)", Everything::some, (y, v) -> y.of(v, 1), 0, 2, 2, 24);
        e.within("of(v, 1), full", Everything::full, (y, v) -> y.of(v, 1), 0, 2, 5, 13);
        e.within("of(2, v)", Everything::some, (y, v) -> y.of(2, v), 0, 5, 9, 0);
        e.within("of(0, v)", Everything::some, (y, v) -> y.of(0, v), 0, 1, 9, 1);
        e.due("of(0, 0), nobody there", new MoleSecrets().of(0, 0), Checks.BEYOND);
    }

    private static void ofStepsDigsTurns() {
        e.at(8, "7 STEPS now, 8 1 and DIGS, 9 1 if it TURNS FIRST now, else 0.");
        MoleSecrets x = Everything.tunnelOf(6, 20, 0, 1, 2, 3, 4, 5);
        int[] steps = {1, 1, 1, 1, 2, 2};
        int[] digs = {1, 2, 1, 0, 2, 1};
        int[] turns = {0, 1, 0, 1, 0, 0};
        for (int mole = 0; mole < 6; mole++) {
            e.due("of(" + mole + ", 7)", x.of(mole, 7), steps[mole]);
            e.due("of(" + mole + ", 8)", x.of(mole, 8), digs[mole]);
            e.due("of(" + mole + ", 9)", x.of(mole, 9), turns[mole]);
        }
        x.set(4, 1, 5);
        e.due("of(4, 9), in an even ROW now", x.of(4, 9), 1);
        x.tell(0, 6);
        x.tell(1, 6);
        x.set(0, 3, 6);
        x.set(1, 3, 6);
        x.minutes(1);
        e.due("of(2, 6)", x.of(2, 6), 0);
        e.due("of(2, 7), CARRYING now", x.of(2, 7), 2);
        e.due("of(3, 7), in MINUTE 1 now", x.of(3, 7), 0);
        x.minutes(1);
        e.due("of(3, 7), in MINUTE 2", x.of(3, 7), 0);
        x.minutes(1);
        e.due("of(3, 7), in MINUTE 3", x.of(3, 7), 1);
    }

    private static void charges() {
        e.at(9, "What one CHARGES for a cell dug (what 0), a secret brought out (1).");
        MoleSecrets x = Everything.tunnelOf(0, 1, 0, 1, 2, 3, 4, 5);
        int[] cell = {2, 1, 2, 0, 1, 2};
        int[] secret = {10, 10, 15, 0, 14, 30};
        for (int mole = 0; mole < 6; mole++) {
            e.due("charges(" + mole + ", 0)", x.charges(mole, 0), cell[mole]);
            e.due("charges(" + mole + ", 1)", x.charges(mole, 1), secret[mole]);
        }
        e.at(9, "BEYOND.");
        e.within("charges(v, 0)", Everything::some, (y, v) -> y.charges(v, 0), 0, 1, 2, 2);
        e.within("charges(v, 1), full", Everything::full, (y, v) -> y.charges(v, 1), 0, 10, 5, 14);
        e.within("charges(2, v)", Everything::some, (y, v) -> y.charges(2, v), 0, 2, 1, 30);
        e.due("charges(0, 0), nobody there", new MoleSecrets().charges(0, 0), Checks.BEYOND);
    }

    private static void set() {
        e.at(10, "BEYOND.");
        e.within("set(v, 1, 0)", Everything::some, (y, v) -> y.set(v, 1, 0), 0, 2, 2, 24);
        e.within("set(v, 1, 0), full", Everything::full, (y, v) -> y.set(v, 1, 0), 0, 2, 5, 13);
        e.within("set(1, v, 0)", Everything::some, (y, v) -> y.set(1, v, 0), 1, 8, 5, 9999);
        e.within("set(1, 1, v)", Everything::some, (y, v) -> y.set(1, 1, v), 0, 8, 29, 8);
        e.within("set(1, 2, v)", Everything::some, (y, v) -> y.set(1, 2, v), 0, 6, 29, 6);
        e.within("set(1, 3, v)", Everything::some, (y, v) -> y.set(1, 3, v), 0, 11, 29, 11);
        e.within("set(1, 4, v)", Everything::some, (y, v) -> y.set(1, 4, v), 0, 1, 1, 1);
        e.within("set(1, 5, v)", Everything::some, (y, v) -> y.set(1, 5, v), 0, 9999, 9999, 9999);
        // What a CELL may be, a WAY may not, though HANDS may.
        e.refused("set(1, 4, 29)", Everything::some, y -> y.set(1, 4, 29), Checks.BEYOND);
        e.due("set(1, 5, 30)", Everything.some().set(1, 5, 30), 9999);
        e.due("set(0, 1, 0), nobody there", new MoleSecrets().set(0, 1, 0), Checks.BEYOND);
    }

    private static void setNothingElse() {
        e.at(10, "Cell (what 1), HOME (2), END (3), WAY (4), HANDS (5) of one becomes v: what it was.");
        int[] was = {0, 8, 6, 11, 1, 9999};
        int[] becomes = {0, 29, 0, 29, 0, 0};
        for (int what = 1; what <= 5; what++) {
            MoleSecrets x = Everything.some();
            e.due("set(1, " + what + ", ..)", x.set(1, what, becomes[what]), was[what]);
            e.due("of(1, " + what + ")", x.of(1, what), becomes[what]);
            e.due("set(1, " + what + ", ..) back", x.set(1, what, was[what]), becomes[what]);
            e.alike("set(1, " + what + ", ..) there and back", x, Everything.some());
        }
        // AT its END by set, CARRYING: out only as a MINUTE goes.
        MoleSecrets x = Everything.some();
        x.set(1, 1, 11);
        e.due("where(1)", x.where(1), -2);
        e.due("of(1, 6)", x.of(1, 6), 1);
        e.due("minutes(1), that and the HURRIER's", x.minutes(1), 1 + 2 + 16);
    }

    private static void turn() {
        e.at(11, "One becomes one of another KIND: what it was.");
        for (int kind = 0; kind < 6; kind++) {
            MoleSecrets x = Everything.some();
            e.due("turn(1, " + kind + ")", x.turn(1, kind), 0);
            int[] due = {kind, 8, 6, 11, 1, 9999, 1};
            for (int what = 0; what <= 6; what++) {
                e.due("of(1, " + what + ")", x.of(1, what), due[what]);
            }
            e.due("turn(1, 0)", x.turn(1, 0), kind);
            e.alike("turn there and back", x, Everything.some());
        }
        e.at(11, "BEYOND.");
        e.within("turn(v, 3)", Everything::some, (y, v) -> y.turn(v, 3), 0, 1, 2, 5);
        e.within("turn(v, 3), full", Everything::full, (y, v) -> y.turn(v, 3), 0, 1, 5, 4);
        e.within("turn(1, v)", Everything::some, (y, v) -> y.turn(1, v), 0, 0, 5, 0);
        e.due("turn(0, 0), nobody there", new MoleSecrets().turn(0, 0), Checks.BEYOND);
    }

    private static void as() {
        e.at(12, "One as one of a kind: HANDS.");
        MoleSecrets x = Everything.some();
        e.due("as(1, 0), 9999", x.as(1, 0), 9999);
        x.set(1, 5, 0);
        e.due("as(1, 0), 0", x.as(1, 0), 0);
        e.at(12, "BEYOND: no such one, kind.");
        e.within("as(v, 0)", Everything::some, (y, v) -> y.as(v, 0), 0, 13, 2, 12);
        e.within("as(v, 0), full", Everything::full, (y, v) -> y.as(v, 0), 0, 13, 5, 0);
        e.within("as(2, v)", Everything::some, (y, v) -> y.as(2, v), 0, 12, 5, 12);
        e.due("as(0, 0), nobody there", new MoleSecrets().as(0, 0), Checks.BEYOND);
    }

    private static void asOneUnder() {
        e.at(12, "KIND: it isn't of that kind, nor of one under it.");
        int[][] under = {{0, 0}, {1, 0}, {2, 0}, {3, 0}, {4, 0}, {5, 0}, {1, 1}, {4, 1}, {2, 2}, {5, 2}, {3, 3}, {4, 4}, {5, 5}};
        boolean[][] is = new boolean[6][6];
        for (int[] pair : under) {
            is[pair[0]][pair[1]] = true;
        }
        for (int one = 0; one < 6; one++) {
            for (int kind = 0; kind < 6; kind++) {
                MoleSecrets x = Everything.some();
                x.turn(0, one);
                e.due(one + " as " + kind, x.as(0, kind), is[one][kind] ? 13 : Checks.KIND);
            }
        }
        e.refused("as(0, 4)", Everything::some, y -> y.as(0, 4), Checks.KIND);
    }
}
