import java.io.IOException;

/** Boundaries of promises 13 to 18: minutes, on, then, out, dug, comes. */
public final class EdgesOfMinutesTest {
    private static Edges e;

    public static void main(String[] args) throws IOException {
        e = new Edges("EdgesOfMinutesTest");
        minutes();
        minutesAbove99999();
        on();
        then();
        out();
        outNone();
        dug();
        comes();
        comesAsAMinuteEnds();
        e.whole(13, 18);
        e.end();
    }

    private static void minutes() {
        e.at(13, "n MINUTES go (1 to 100): SECRETS that are out then, as a set.");
        MoleSecrets one = Everything.some();
        e.due("minutes(1)", one.minutes(1), 1 + 16);
        e.due("now(0)", one.now(0), 5);
        MoleSecrets all = Everything.some();
        e.due("minutes(100)", all.minutes(100), 1 + 2 + 16 + 32);
        e.due("now(0)", all.now(0), 104);
        MoleSecrets six = Everything.tunnelOf(0, 1, 0);
        for (int secret = 0; secret < 6; secret++) {
            e.due("tell(" + secret + ", 0)", six.tell(secret, 0), -1);
        }
        e.due("minutes(10), five out", six.minutes(10), 31);
        e.due("minutes(1), all out", six.minutes(1), 63);
        e.due("minutes(100), nobody there", new MoleSecrets().minutes(100), 0);
        e.at(13, "BEYOND.");
        e.within("minutes(v)", Everything::some, (x, v) -> x.minutes(v), 1, 1 + 16, 100, 1 + 2 + 16 + 32);
    }

    private static MoleSecrets late() {
        MoleSecrets x = new MoleSecrets();
        x.mole(3, 0, 5);
        for (int i = 0; i < 999; i++) {
            x.minutes(100);
        }
        return x;
    }

    /** Only by more than 512 calls. */
    private static void minutesAbove99999() {
        e.at(13, "STATE: MINUTE would be above 99999.");
        MoleSecrets x = late();
        e.due("minutes(99) from 99900", x.minutes(99), 0);
        e.due("now(0)", x.now(0), 99999);
        e.refused("minutes(100) from 99900", EdgesOfMinutesTest::late, y -> y.minutes(100), Checks.STATE);
    }

    private static void on() {
        e.at(14, "Cell (what 0), HANDS (1), CARRIES (2; -1) of one n MINUTES (0 to 200) AHEAD.");
        MoleSecrets x = Everything.some();
        int[][] due = {{2, 13, -1}, {8, 9999, 1}, {24, 12, 4}};
        for (int mole = 0; mole < 3; mole++) {
            for (int what = 0; what <= 2; what++) {
                e.due("on(" + mole + ", 0, " + what + ")", x.on(mole, 0, what), due[mole][what]);
            }
        }
        // On its round of 10 MINUTES from MINUTE 12 AHEAD on: 9, 8, 7.
        e.due("on(1, 199, 0)", x.on(1, 199, 0), 9);
        e.due("on(1, 200, 0)", x.on(1, 200, 0), 8);
        e.due("on(1, 5, 2)", x.on(1, 5, 2), 1);
        e.due("on(1, 6, 2), nothing", x.on(1, 6, 2), -1);
        e.due("on(1, 200, 1), 9999 at most", x.on(1, 200, 1), 9999);
        e.at(14, "BEYOND.");
        e.within("on(v, 0, 0)", Everything::some, (y, v) -> y.on(v, 0, 0), 0, 2, 2, 24);
        e.within("on(v, 0, 0), full", Everything::full, (y, v) -> y.on(v, 0, 0), 0, 2, 5, 13);
        e.within("on(1, v, 0)", Everything::some, (y, v) -> y.on(1, v, 0), 0, 8, 200, 8);
        e.within("on(2, 0, v)", Everything::some, (y, v) -> y.on(2, 0, v), 0, 24, 2, 4);
        e.due("on(0, 0, 0), nobody there", new MoleSecrets().on(0, 0, 0), Checks.BEYOND);
    }

    /** A RETIRED one fetches four secrets, one STEP in 3 MINUTES: the last is out by its 67th STEP. */
    private static MoleSecrets slow(int minute) {
        MoleSecrets x = Everything.tunnel();
        if (minute > 0) {
            x.minutes(minute);
        }
        x.mole(3, 0, 29);
        x.set(0, 1, 4);
        x.set(0, 4, 0);
        for (int secret = 0; secret < 4; secret++) {
            x.tell(secret, 0);
        }
        return x;
    }

    private static void then() {
        e.at(15, "Where a secret is n MINUTES (0 to 200) AHEAD.");
        MoleSecrets x = Everything.some();
        int[] now = {-3, -2, -1, -1, -2, 17};
        int[] later = {-3, -3, -1, -1, -3, -3};
        for (int secret = 0; secret < 6; secret++) {
            e.due("then(" + secret + ", 0)", x.then(secret, 0), now[secret]);
            e.due("then(" + secret + ", 200)", x.then(secret, 200), later[secret]);
        }
        e.due("then(3, 199) from MINUTE 2", slow(2).then(3, 199), -2);
        e.due("then(3, 200) from MINUTE 2", slow(2).then(3, 200), -3);
        e.due("then(3, 200) from MINUTE 1", slow(1).then(3, 200), -2);
        e.at(15, "BEYOND.");
        e.within("then(v, 0)", Everything::some, (y, v) -> y.then(v, 0), 0, -3, 5, 17);
        e.within("then(5, v)", Everything::some, (y, v) -> y.then(5, v), 0, 17, 200, -3);
    }

    private static void out() {
        e.at(16, "In how many MINUTES (0 to 200) a secret is out first.");
        e.due("out(0), out already", Everything.some().out(0), 0);
        e.due("out(4), next", Everything.some().out(4), 1);
        e.due("out(1)", Everything.some().out(1), 6);
        e.due("out(3), 199", slow(0).out(3), 199);
        e.due("out(3), 200", slow(2).out(3), 200);
        e.at(16, "NONE.");
        e.due("out(3), 201", slow(1).out(3), Checks.NONE);
        e.at(16, "BEYOND.");
        e.within("out(v)", Everything::some, (y, v) -> y.out(v), 0, 0, 5, 10);
    }

    private static void outNone() {
        e.at(16, "BEYOND. NONE.");
        e.refused("out(3), 201", () -> slow(1), y -> y.out(3), Checks.NONE);
        e.refused("out(2), not told", Everything::some, y -> y.out(2), Checks.NONE);
        MoleSecrets nobody = new MoleSecrets();
        nobody.tell(0, 0);
        e.due("out(0), nobody there", nobody.out(0), Checks.NONE);
        MoleSecrets end = Everything.tunnelOf(0, 5, 0);
        end.tell(0, 5);
        e.due("out(0), AT its END", end.out(0), Checks.NONE);
        end.tell(0, 6);
        e.due("out(0), off its way", end.out(0), Checks.NONE);
    }

    private static void dug() {
        e.at(17, "In how many MINUTES (0 to 200) a cell is DUG first.");
        MoleSecrets x = Everything.some();
        e.due("dug(20), DUG already", x.dug(20), 0);
        e.due("dug(9), next", x.dug(9), 1);
        e.due("dug(11)", x.dug(11), 5);
        // The latest that any shire was found to dig: by a MOLE, 21 cells, on its third way.
        MoleSecrets late = Everything.one(0, 0, 29);
        late.set(0, 1, 6);
        e.due("dug(5)", late.dug(5), 43);
        e.due("dug(4)", late.dug(4), 41);
        e.at(17, "BEYOND.");
        e.within("dug(v)", Everything::some, (y, v) -> y.dug(v), 0, 2, 29, 7);
        e.at(17, "NONE.");
        e.refused("dug(4)", Everything::some, y -> y.dug(4), Checks.NONE);
        e.due("dug(29), nobody there", new MoleSecrets().dug(29), Checks.NONE);
        e.due("dug(0), where it stays", Everything.one(0, 0, 0).dug(0), Checks.NONE);
        e.due("dug(1), before a RETIRED one", Everything.one(3, 0, 2).dug(1), Checks.NONE);
    }

    private static void comes() {
        e.at(18, "In how many MINUTES (0 to 200) one is AT a cell first");
        MoleSecrets x = Everything.some();
        e.due("comes(1, 8), AT it already", x.comes(1, 8), 0);
        e.due("comes(1, 9)", x.comes(1, 9), 2);
        e.due("comes(1, 11)", x.comes(1, 11), 6);
        e.due("comes(1, 6)", x.comes(1, 6), 12);
        // The latest that any shire was found to have: CARRYING one of six it leaps over 23, on its last way it doesn't.
        MoleSecrets late = Everything.one(2, 0, 29);
        late.set(0, 1, 24);
        late.cell(23, 0, 1);
        for (int secret = 0; secret < 6; secret++) {
            late.tell(secret, 17);
        }
        e.due("comes(0, 23)", late.comes(0, 23), 141);
        e.at(18, "BEYOND.");
        e.within("comes(v, 3)", EdgesOfMinutesTest::twoToThree, (y, v) -> y.comes(v, 3), 0, 3, 1, 2);
        e.within("comes(0, v)", EdgesOfMinutesTest::corners, (y, v) -> y.comes(0, v), 0, 0, 29, 9);
        e.due("comes(0, 0), nobody there", new MoleSecrets().comes(0, 0), Checks.BEYOND);
        e.at(18, "NONE.");
        e.refused("comes(1, 12)", Everything::some, y -> y.comes(1, 12), Checks.NONE);
        e.due("comes(0, 1), before a RETIRED one", Everything.one(3, 0, 2).comes(0, 1), Checks.NONE);
    }

    private static MoleSecrets twoToThree() {
        MoleSecrets x = Everything.tunnelOf(0, 5, 0);
        x.mole(0, 1, 5);
        return x;
    }

    private static MoleSecrets corners() {
        return Everything.tunnelOf(0, 29, 1);
    }

    private static void comesAsAMinuteEnds() {
        e.at(18, "(as a MINUTE ends)");
        MoleSecrets x = Everything.tunnelOf(0, 12, 4);
        e.due("comes(0, 6), between two STEPS", x.comes(0, 6), Checks.NONE);
        e.due("comes(0, 12)", x.comes(0, 12), 1);
        // Back AT its HOME as the MINUTE ends, it isn't AT its END.
        MoleSecrets y = Everything.tunnelOf(0, 6, 4);
        e.due("comes(0, 6)", y.comes(0, 6), Checks.NONE);
        e.due("comes(0, 0)", y.comes(0, 0), 0);
    }
}
