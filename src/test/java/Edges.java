import java.io.IOException;

/** Tests of boundaries: each bears a promise's number and the boundary's own words, which must stand there. */
final class Edges {
    interface Maker {
        MoleSecrets make();
    }

    interface Act {
        long on(MoleSecrets x);
    }

    interface ActBy {
        long on(MoleSecrets x, int v);
    }

    private final Checks checks;
    private final Doc doc;
    private String label = "";

    Edges(String name) throws IOException {
        checks = new Checks(name);
        doc = new Doc();
    }

    /** What follows is the test of this boundary. */
    void at(int promise, String words) {
        label = (promise == Doc.TERMS ? "Terms" : "Promise " + promise) + ", '" + words + "': ";
        checks.same(label + "the quotation", doc.take(promise, words), "");
    }

    void due(String call, long got, long want) {
        checks.due(label + call, got, want);
    }

    void same(String what, String got, String want) {
        checks.same(label + what, got, want);
    }

    void path(MoleSecrets x, int mole, int... cells) {
        for (int n = 0; n < cells.length; n++) {
            due("on(" + mole + ", " + n + ", 0)", x.on(mole, n, 0), cells[n]);
        }
    }

    /** The act answers a finding, and changes nothing but status(): all else is as with a twin that wasn't asked. */
    void refused(String call, Maker maker, Act act, int finding) {
        MoleSecrets x = maker.make();
        MoleSecrets twin = maker.make();
        due(call, act.on(x), finding);
        for (int which = -1; which <= 6; which++) {
            int more = which == -1 || which == Checks.BEYOND - finding ? 1 : 0;
            due("status(" + which + ") behind " + call, x.status(which), twin.status(which) + more);
        }
        same("all but status() behind " + call, Everything.of(x), Everything.of(twin));
    }

    /** The act answers no finding, and changes nothing at all. */
    void onlyLooks(String call, Maker maker, Act act) {
        MoleSecrets x = maker.make();
        MoleSecrets twin = maker.make();
        act.on(x);
        alike(call, x, twin);
    }

    /** One is as the other, status() too. */
    void alike(String call, MoleSecrets x, MoleSecrets twin) {
        for (int which = -1; which <= 6; which++) {
            due("status(" + which + ") behind " + call, x.status(which), twin.status(which));
        }
        same("all behind " + call, Everything.of(x), Everything.of(twin));
    }

    /** The least and the most v answer as due; those one beyond, and those far beyond, are BEYOND and change nothing. */
    void within(String call, Maker maker, ActBy act, int least, long dueOfLeast, int most, long dueOfMost) {
        due(call + " of " + least, act.on(maker.make(), least), dueOfLeast);
        due(call + " of " + most, act.on(maker.make(), most), dueOfMost);
        for (int v : new int[] {least - 1, most + 1, Integer.MIN_VALUE, Integer.MAX_VALUE}) {
            refused(call + " of " + v, maker, x -> act.on(x, v), Checks.BEYOND);
        }
    }

    /** Every sentence, and every boundary's word, of these promises has had a test. */
    void whole(int first, int last) {
        for (int promise = first; promise <= last; promise++) {
            checks.same("Promise " + promise + ": what is without a test", doc.left(promise, "`: ", ""), "");
        }
    }

    /** Every sentence, and every boundary's word, of a stretch of the terms has had a test. */
    void wholeOfTerms(String from, String to) {
        checks.same("Terms: what is without a test", doc.left(Doc.TERMS, from, to), "");
    }

    void end() {
        checks.end();
    }
}
