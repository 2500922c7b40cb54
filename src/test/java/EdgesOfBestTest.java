import java.io.IOException;

/** Boundaries of promises 19 to 24: kind, lead, dig, leave, dismiss, richest. */
public final class EdgesOfBestTest {
    private static Edges e;

    public static void main(String[] args) throws IOException {
        e = new Edges("EdgesOfBestTest");
        kind();
        kindWithin200();
        kindOfSeveral();
        lead();
        leadOfSeveral();
        dig();
        digOfSeveral();
        leave();
        leaveWithin60();
        dismiss();
        dismissOfSeveral();
        richest();
        e.whole(19, 24);
        e.end();
    }

    private static void kind() {
        e.at(19, "The KIND as one of which a mole brings a secret out soonest");
        // By earth, 5 off: MOLE 10, DIGGER 5, CARRIER 6, RETIRED never, MASTER 3, HURRIER 4.
        MoleSecrets x = Everything.one(0, 0, 5);
        x.tell(0, 0);
        e.due("kind(0, 0), by earth", x.kind(0, 0), 4);
        // By tunnel, 5 off: 5, 5, 3, 13, 3, 2.
        MoleSecrets y = Everything.tunnelOf(0, 5, 0);
        y.tell(5, 0);
        e.due("kind(0, 5), by tunnel", y.kind(0, 5), 5);
        e.at(19, "BEYOND.");
        e.within("kind(v, 5)", EdgesOfBestTest::two, (z, v) -> z.kind(v, 5), 0, 0, 1, 5);
        e.within("kind(1, v)", EdgesOfBestTest::two, (z, v) -> z.kind(1, v), 0, 0, 5, 5);
        e.due("kind(0, 0), nobody there", new MoleSecrets().kind(0, 0), Checks.BEYOND);
    }

    /** Of two in a tunnel, the second is where the last secret LIES; the first is where none does. */
    private static MoleSecrets two() {
        MoleSecrets x = Everything.tunnelOf(24, 28, 0);
        x.mole(0, 0, 5);
        x.tell(5, 0);
        return x;
    }

    /** A RETIRED one fetches one after another of five; only who goes by ROWS first takes one off it. */
    private static MoleSecrets slow(int minute) {
        MoleSecrets x = Everything.tunnel();
        x.minutes(minute);
        x.mole(3, 0, 29);
        x.set(0, 1, 4);
        x.set(0, 4, 0);
        x.mole(0, 28, 1);
        x.set(1, 1, 6);
        for (int secret = 0; secret < 5; secret++) {
            x.tell(secret, 0);
        }
        return x;
    }

    private static void kindWithin200() {
        e.at(19, "(by out(), within 200; not at all: latest)");
        e.due("kind(1, 4), 200 off", slow(2).kind(1, 4), 1);
        e.due("kind(1, 4), 201 off", slow(1).kind(1, 4), 0);
        // By out(): the first one brings it, whatever the second is.
        MoleSecrets other = Everything.tunnelOf(0, 1, 1);
        other.mole(5, 24, 28);
        other.tell(0, 0);
        e.due("kind(1, 0), another brings it", other.kind(1, 0), 0);
        // Latest, not soonest: RETIRED, before earth, never brings it; a DIGGER does.
        MoleSecrets earth = Everything.one(3, 0, 1);
        earth.tell(0, 0);
        e.due("kind(0, 0), RETIRED never", earth.kind(0, 0), 1);
    }

    private static void kindOfSeveral() {
        e.at(19, "of several the least.");
        MoleSecrets x = Everything.tunnelOf(0, 1, 5);
        x.tell(0, 0);
        e.due("kind(0, 0), all alike", x.kind(0, 0), 0);
        e.due("kind(0, 1), none of them ever", x.kind(0, 1), 0);
        x.minutes(1);
        e.due("kind(0, 0), out already", x.kind(0, 0), 0);
        // Two off by earth: MOLE 4, DIGGER 2, CARRIER 3, MASTER 1, HURRIER 2.
        MoleSecrets y = Everything.one(5, 0, 2);
        y.tell(0, 0);
        e.due("kind(0, 0), two off", y.kind(0, 0), 4);
        // One off by earth: MOLE 2, DIGGER 1, CARRIER 2, MASTER 1, HURRIER 1.
        MoleSecrets z = Everything.one(5, 0, 1);
        z.tell(0, 0);
        e.due("kind(0, 0), one off", z.kind(0, 0), 1);
    }

    /**
     * In MINUTE 1 a RETIRED one makes its 20th STEP as the 60th MINUTE AHEAD ends. With END 1 it brings the last of six
     * out by that one; with END 6, which it comes to by its HOME, by its 18th.
     */
    private static MoleSecrets led() {
        MoleSecrets x = Everything.tunnel();
        x.minutes(1);
        x.mole(3, 7, 29);
        x.set(0, 1, 29);
        x.set(0, 3, 28);
        for (int secret = 0; secret < 6; secret++) {
            x.tell(secret, 7);
        }
        return x;
    }

    private static void lead() {
        e.at(20, "The END of a mole with which most SECRETS are out n MINUTES (1 to 60) AHEAD");
        e.due("lead(0, 60)", led().lead(0, 60), 1);
        e.due("lead(0, 59)", led().lead(0, 59), 6);
        e.due("lead(0, 1)", led().lead(0, 1), 0);
        e.at(20, "BEYOND.");
        e.within("lead(0, v)", EdgesOfBestTest::led, (x, v) -> x.lead(0, v), 1, 0, 60, 1);
        e.within("lead(v, 1)", EdgesOfBestTest::leadTwo, (x, v) -> x.lead(v, 1), 0, 0, 1, 23);
        e.due("lead(0, 1), nobody there", new MoleSecrets().lead(0, 1), Checks.BEYOND);
    }

    /** The second is where a secret LIES, in the last cell. */
    private static MoleSecrets leadTwo() {
        MoleSecrets x = Everything.tunnelOf(0, 5, 0);
        x.mole(0, 29, 0);
        x.tell(0, 29);
        return x;
    }

    private static void leadOfSeveral() {
        e.at(20, "of several the least.");
        MoleSecrets none = Everything.tunnelOf(7, 29, 0);
        e.due("lead(0, 60), no secret told", none.lead(0, 60), 0);
        // Two cells beside it, and in the second of two MINUTES those two off.
        none.tell(0, 29);
        none.set(0, 1, 29);
        e.due("lead(0, 1)", none.lead(0, 1), 23);
        e.due("lead(0, 2)", none.lead(0, 2), 17);
        // Only the last cell of all will do.
        MoleSecrets last = Everything.one(0, 28, 0);
        last.cell(29, 0, 1);
        last.tell(0, 28);
        e.due("lead(0, 1), the last cell", last.lead(0, 1), 29);
        // The most, not the first that is more than none: only on its way to 3 and beyond it lifts both.
        MoleSecrets most = Everything.one(1, 0, 29);
        most.tell(0, 0);
        most.tell(1, 2);
        e.due("lead(0, 60)", most.lead(0, 60), 3);
    }

    /** A MOLE that brings the last of six out in 60 MINUTES, but in 61 as long as it has to dig cell 3. */
    private static MoleSecrets digger() {
        MoleSecrets x = Everything.tunnelOf(0, 5, 0);
        x.cell(3, 0, 0);
        x.cell(29, 0, 0);
        x.set(0, 1, 5);
        x.set(0, 4, 0);
        for (int secret = 0; secret < 6; secret++) {
            x.tell(secret, 0);
        }
        return x;
    }

    private static void dig() {
        e.at(21, "The cell (of earth) that, DUG now, lets HANDS of all together be least n MINUTES (1 to 60) AHEAD");
        e.due("dig(60)", digger().dig(60), 29);
        e.due("dig(59)", digger().dig(59), 3);
        e.at(21, "BEYOND.");
        e.within("dig(v)", EdgesOfBestTest::digger, (x, v) -> x.dig(v), 1, 3, 60, 29);
        e.at(21, "NONE: there is none.");
        e.refused("dig(1)", Everything::tunnel, x -> x.dig(1), Checks.NONE);
        e.refused("dig(60)", Everything::tunnel, x -> x.dig(60), Checks.NONE);
    }

    private static void digOfSeveral() {
        e.at(21, "of several the least.");
        e.due("dig(60), nobody there", new MoleSecrets().dig(60), 0);
        e.due("dig(60), six with 9999", six9999().dig(60), 0);
        for (int cell = 0; cell < 30; cell += 29) {
            MoleSecrets x = Everything.tunnel();
            x.cell(cell, 0, 0);
            e.due("dig(1), but one of earth", x.dig(1), cell);
        }
        // Dug now, 1, and only 1, saves a MOLE of one MINUTE its pay.
        e.due("dig(1)", Everything.one(0, 0, 5).dig(1), 1);
        // In two MINUTES it has dug one cell, 1 or 2, whichever is DUG; what is already DUG is none of earth.
        MoleSecrets y = Everything.one(0, 0, 5);
        e.due("dig(2)", y.dig(2), 0);
        y.cell(0, 0, 1);
        e.due("dig(2), 0 being DUG", y.dig(2), 1);
        // HANDS of all: of the second as well.
        MoleSecrets z = Everything.one(1, 6, 11);
        z.mole(0, 12, 17);
        e.due("dig(1)", z.dig(1), 13);
    }

    /** Six in earth, none of whom can be paid more. */
    private static MoleSecrets six9999() {
        MoleSecrets x = new MoleSecrets();
        for (int mole = 0; mole < 6; mole++) {
            x.mole(mole, 0, 5);
            x.set(mole, 5, 9999);
        }
        return x;
    }

    private static void leave() {
        e.at(22, "The cell in which a secret had best LIE now, so that it is out soonest");
        MoleSecrets x = Everything.tunnelOf(0, 5, 0);
        e.due("leave(0)", x.leave(0), 0);
        x.set(0, 1, 3);
        e.due("leave(0), where it is", x.leave(0), 3);
        e.due("leave(0), the last cell alone", Everything.tunnelOf(29, 28, 0).leave(0), 29);
        e.due("leave(0), the first cell alone", Everything.tunnelOf(0, 1, 0).leave(0), 0);
        e.at(22, "BEYOND.");
        e.within("leave(v)", EdgesOfBestTest::leaveOne, (y, v) -> y.leave(v), 0, 3, 5, 3);
        // From who CARRIES it, and from where it is out.
        MoleSecrets y = Everything.tunnelOf(0, 5, 0);
        y.tell(0, 0);
        y.minutes(1);
        e.due("leave(0), carried", y.leave(0), 1);
        y.minutes(4);
        e.due("where(0)", y.where(0), -3);
        e.due("leave(0), out", y.leave(0), 0);
        e.at(22, "of several the least.");
        // From 10 to 6, by 9, 8 and 7: in whichever of them it LIES, it is out as the mole comes.
        MoleSecrets z = Everything.tunnelOf(8, 9, 0);
        z.set(0, 1, 10);
        z.set(0, 3, 6);
        e.due("leave(0)", z.leave(0), 7);
        e.at(22, "NONE.");
        e.refused("leave(0), nobody there", Everything::tunnel, w -> w.leave(0), Checks.NONE);
        e.due("leave(0), HOME and END one cell", Everything.one(0, 3, 3).leave(0), Checks.NONE);
        e.due("leave(0), before earth", Everything.one(3, 0, 2).leave(0), Checks.NONE);
    }

    private static MoleSecrets leaveOne() {
        MoleSecrets x = Everything.tunnelOf(4, 2, 0);
        x.set(0, 1, 3);
        return x;
    }

    /** A RETIRED one CARRYING a secret to its END, then to its HOME and back: so many STEPS to the next one out. */
    private static MoleSecrets retired(int minute, int at) {
        MoleSecrets x = Everything.tunnelOf(0, 29, 3);
        x.tell(0, 0);
        x.minutes(minute);
        x.set(0, 1, at);
        return x;
    }

    private static void leaveWithin60() {
        e.at(22, "(within 60 MINUTES)");
        // In MINUTE 1 the 20th STEP is made as the 60th MINUTE ends; in MINUTE 3 the 21st as the 61st ends.
        e.due("leave(1), 60 off", retired(1, 27).leave(1), 0);
        e.due("leave(1), 61 off", retired(3, 26).leave(1), Checks.NONE);
        e.due("leave(1), 58 off", retired(3, 27).leave(1), 0);
        e.refused("leave(1), 61 off", () -> retired(3, 26), x -> x.leave(1), Checks.NONE);
    }

    /** 0 is paid 34 within 60 MINUTES and before; 1 is paid 30 in 59 MINUTES and 40 in 60. */
    private static MoleSecrets dismissed() {
        MoleSecrets x = Everything.tunnelOf(11, 29, 5);
        x.cell(17, 0, 0);
        x.cell(23, 0, 0);
        x.tell(4, 11);
        x.mole(0, 0, 28);
        x.set(1, 1, 24);
        x.set(1, 4, 0);
        for (int secret = 0; secret < 4; secret++) {
            x.tell(secret, 0);
        }
        return x;
    }

    private static void dismiss() {
        e.at(23, "HANDS of all together are least n MINUTES (1 to 60) AHEAD");
        e.due("dismiss(60)", dismissed().dismiss(60), 1);
        e.due("dismiss(59)", dismissed().dismiss(59), 0);
        e.at(23, "BEYOND.");
        e.within("dismiss(v)", EdgesOfBestTest::dismissed, (x, v) -> x.dismiss(v), 1, 0, 60, 1);
        e.at(23, "NONE: nobody is there.");
        e.refused("dismiss(1)", Everything::tunnel, x -> x.dismiss(1), Checks.NONE);
        e.refused("dismiss(60)", Everything::tunnel, x -> x.dismiss(60), Checks.NONE);
        e.due("dismiss(1), one there", Everything.one(0, 0, 5).dismiss(1), 0);
    }

    private static void dismissOfSeveral() {
        e.at(23, "Without which mole (it has no STEPS, picks up nothing, brings nothing out)");
        // It picks up nothing: then the MOLE behind it does, for 10.
        MoleSecrets picks = Everything.tunnelOf(0, 1, 3, 0);
        picks.tell(0, 0);
        e.due("dismiss(1)", picks.dismiss(1), 1);
        // It brings nothing out, AT its END though it is.
        MoleSecrets brings = Everything.tunnelOf(0, 5, 0);
        brings.tell(0, 0);
        brings.minutes(1);
        brings.set(0, 3, 1);
        brings.mole(1, 12, 17);
        brings.cell(18, 0, 0);
        brings.set(1, 3, 18);
        e.due("dismiss(1)", brings.dismiss(1), 0);
        e.at(23, "of several the least.");
        e.due("dismiss(60), six with 9999", six9999().dismiss(60), 0);
        e.due("dismiss(60), six alike", Everything.tunnelOf(0, 5, 0, 0, 0, 0, 0, 0).dismiss(60), 0);
        MoleSecrets last = Everything.tunnelOf(0, 1, 3, 3, 3, 3, 3);
        last.mole(0, 7, 8);
        last.cell(8, 0, 0);
        e.due("dismiss(60), the last of six", last.dismiss(60), 5);
        // What it has been paid already is among HANDS of all still.
        MoleSecrets paid = Everything.one(3, 0, 5);
        paid.mole(1, 6, 11);
        paid.set(0, 5, 9999);
        e.due("dismiss(1), the other was paid", paid.dismiss(1), 1);
    }

    private static void richest() {
        e.at(24, "Who has most HANDS n MINUTES (0 to 200) AHEAD");
        MoleSecrets x = richer();
        e.due("richest(0)", x.richest(0), 0);
        e.due("richest(1)", x.richest(1), 1);
        e.due("richest(2), 2 and 2", x.richest(2), 0);
        e.due("richest(200)", x.richest(200), 1);
        e.at(24, "BEYOND.");
        e.within("richest(v)", EdgesOfBestTest::richer, (y, v) -> y.richest(v), 0, 0, 200, 1);
        e.at(24, "of several the least.");
        MoleSecrets six = Everything.tunnelOf(0, 5, 0, 0, 0, 0, 0, 0);
        e.due("richest(200), all with nothing", six.richest(200), 0);
        six.set(5, 5, 1);
        e.due("richest(0), the last of six", six.richest(0), 5);
        six.set(3, 5, 9999);
        six.set(5, 5, 9999);
        e.due("richest(0), two with 9999", six.richest(0), 3);
        e.at(24, "NONE: nobody is there.");
        e.refused("richest(0)", Everything::tunnel, y -> y.richest(0), Checks.NONE);
        e.refused("richest(200)", Everything::tunnel, y -> y.richest(200), Checks.NONE);
    }

    /** The second is paid more, but for the MINUTES in which it goes without digging. */
    private static MoleSecrets richer() {
        MoleSecrets x = Everything.one(1, 6, 11);
        x.mole(0, 0, 5);
        return x;
    }
}
