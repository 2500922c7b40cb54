import java.util.Arrays;

/** A shire under which moles dig, go to and fro, and carry secrets; the document says what each call answers. */
public final class MoleSecrets {
    private static final int BEYOND = -1000000001;
    private static final int FULL = -1000000002;
    private static final int KIND = -1000000003;
    private static final int NONE = -1000000004;
    private static final int STATE = -1000000005;
    private static final int MISSING = -1000000006;
    private static final int SIZE = -1000000007;
    private static final int FINDINGS = 7;

    private static final int CELLS = 30;
    private static final int ROW_LENGTH = 6;
    private static final int MOST_MOLES = 6;
    private static final int KINDS = 6;
    private static final int SECRETS = 6;
    private static final int MOST_HEAPS = 99;
    private static final int MOST_HANDS = 9999;
    private static final int LAST_MINUTE = 99999;
    private static final int ABOVE_ALL_HANDS = MOST_MOLES * MOST_HANDS + 1;

    private static final int UNTOLD = -1;
    private static final int CARRIED = -2;
    private static final int OUT = -3;
    private static final int NOTHING = -1;
    private static final int NOBODY = -1;

    private static final int TO_HOME = 0;
    private static final int TO_END = 1;

    private static final int MOST_MINUTES = 100;
    private static final int FAR_AHEAD = 200;
    private static final int NEAR_AHEAD = 60;

    private static final int TAPE_LENGTH = 120;
    private static final int MOST_FED = 4;
    private static final int SHEETS = 4;
    private static final int SHEET_LENGTH = 40;

    private final Shire live;
    // Every look AHEAD is played on this one, so that no call makes a shire.
    private final Shire ahead;
    private final Shire kept;
    private boolean isKept;
    private final Tape tape;
    private final Sheet[] sheets;
    private final Findings findings;

    public MoleSecrets() {
        Mole[] kinds = {new Mole(), new Digger(), new Carrier(), new Retired(), new Master(), new Hurrier()};
        live = new Shire(kinds);
        ahead = new Shire(kinds);
        kept = new Shire(kinds);
        isKept = false;
        tape = new Tape();
        sheets = new Sheet[] {new Sheet(), new Sheet(), new Sheet(), new Sheet()};
        findings = new Findings();
    }

    // ---- the shire

    public int cell(int cell, int what, int v) {
        if (!isCell(cell) || !within(what, 0, 1) || !within(v, 0, what == 0 ? 1 : MOST_HEAPS)) {
            return findings.found(BEYOND);
        }
        int was = cellFact(cell, what);
        if (what == 0) {
            live.lay(cell, v);
        } else {
            live.heaps[cell] = v;
        }
        return was;
    }

    public int cellOf(int cell, int what) {
        if (!isCell(cell) || !within(what, 0, 3)) {
            return findings.found(BEYOND);
        }
        return cellFact(cell, what);
    }

    public int tell(int secret, int cell) {
        if (!isSecret(secret) || !within(cell, UNTOLD, CELLS - 1)) {
            return findings.found(BEYOND);
        }
        int was = live.lies[secret];
        live.putSecret(secret, cell);
        return was;
    }

    public int where(int secret) {
        return isSecret(secret) ? live.lies[secret] : findings.found(BEYOND);
    }

    public int now(int what) {
        switch (what) {
            case 0: return live.minute;
            case 1: return live.dugCells;
            case 2: return live.heapsOfAll();
            case 3: return live.secretsAt(OUT);
            case 4: return live.secretsAt(CARRIED);
            case 5: return live.handsOfAll();
            default: return findings.found(BEYOND);
        }
    }

    // ---- moles

    public int mole(int kind, int home, int end) {
        if (!isKind(kind) || !isCell(home) || !isCell(end)) {
            return findings.found(BEYOND);
        }
        if (live.isFull()) {
            return findings.found(FULL);
        }
        return live.contract(kind, home, end);
    }

    public int of(int mole, int what) {
        if (!isMole(mole) || !within(what, 0, 9)) {
            return findings.found(BEYOND);
        }
        return moleFact(mole, what);
    }

    public int charges(int mole, int what) {
        if (!isMole(mole) || !within(what, 0, 1)) {
            return findings.found(BEYOND);
        }
        Mole kind = live.kindOf(mole);
        return what == 0 ? kind.payForCell() : kind.payForSecret();
    }

    public int set(int mole, int what, int v) {
        if (!isMole(mole) || !within(what, 1, 5) || !within(v, 0, mostOf(what))) {
            return findings.found(BEYOND);
        }
        int was = moleFact(mole, what);
        switch (what) {
            case 1: live.at[mole] = v; break;
            case 2: live.home[mole] = v; break;
            case 3: live.end[mole] = v; break;
            case 4: live.way[mole] = v; break;
            default: live.hands[mole] = v; break;
        }
        return was;
    }

    public int turn(int mole, int kind) {
        if (!isMole(mole) || !isKind(kind)) {
            return findings.found(BEYOND);
        }
        int was = live.kind[mole];
        live.kind[mole] = kind;
        return was;
    }

    public int as(int mole, int kind) {
        if (!isMole(mole) || !isKind(kind)) {
            return findings.found(BEYOND);
        }
        if (!isOneOf(live.kindOf(mole), kind)) {
            return findings.found(KIND);
        }
        return live.hands[mole];
    }

    // ---- minutes

    public int minutes(int n) {
        if (!within(n, 1, MOST_MINUTES)) {
            return findings.found(BEYOND);
        }
        if (live.minute + n > LAST_MINUTE) {
            return findings.found(STATE);
        }
        live.pass(n, NOBODY);
        return live.secretsAt(OUT);
    }

    public int on(int mole, int n, int what) {
        if (!isMole(mole) || !within(n, 0, FAR_AHEAD) || !within(what, 0, 2)) {
            return findings.found(BEYOND);
        }
        ahead.become(live);
        ahead.pass(n, NOBODY);
        switch (what) {
            case 0: return ahead.at[mole];
            case 1: return ahead.hands[mole];
            default: return ahead.carries[mole];
        }
    }

    public int then(int secret, int n) {
        if (!isSecret(secret) || !within(n, 0, FAR_AHEAD)) {
            return findings.found(BEYOND);
        }
        ahead.become(live);
        ahead.pass(n, NOBODY);
        return ahead.lies[secret];
    }

    public int out(int secret) {
        if (!isSecret(secret)) {
            return findings.found(BEYOND);
        }
        ahead.become(live);
        return foundWithin(ahead.minutesTillOut(secret, FAR_AHEAD));
    }

    public int dug(int cell) {
        if (!isCell(cell)) {
            return findings.found(BEYOND);
        }
        ahead.become(live);
        return foundWithin(ahead.minutesTillDug(cell, FAR_AHEAD));
    }

    public int comes(int mole, int cell) {
        if (!isMole(mole) || !isCell(cell)) {
            return findings.found(BEYOND);
        }
        ahead.become(live);
        return foundWithin(ahead.minutesTillAt(mole, cell, FAR_AHEAD));
    }

    // ---- what is best

    public int kind(int mole, int secret) {
        if (!isMole(mole) || !isSecret(secret)) {
            return findings.found(BEYOND);
        }
        int best = 0;
        int soonest = FAR_AHEAD + 1;
        for (int kind = 0; kind < KINDS; kind++) {
            ahead.become(live);
            ahead.kind[mole] = kind;
            // Only what is sooner than the best so far counts, so none is followed further.
            int after = ahead.minutesTillOut(secret, soonest - 1);
            if (after < soonest) {
                soonest = after;
                best = kind;
            }
        }
        return best;
    }

    public int lead(int mole, int n) {
        if (!isMole(mole) || !within(n, 1, NEAR_AHEAD)) {
            return findings.found(BEYOND);
        }
        int best = 0;
        int most = -1;
        for (int end = 0; end < CELLS; end++) {
            ahead.become(live);
            ahead.end[mole] = end;
            ahead.pass(n, NOBODY);
            int brought = Integer.bitCount(ahead.secretsAt(OUT));
            if (brought > most) {
                most = brought;
                best = end;
            }
        }
        return best;
    }

    public int dig(int n) {
        if (!within(n, 1, NEAR_AHEAD)) {
            return findings.found(BEYOND);
        }
        int best = -1;
        int least = ABOVE_ALL_HANDS;
        for (int cell = 0; cell < CELLS; cell++) {
            if (live.isTunnel(cell)) {
                continue;
            }
            ahead.become(live);
            ahead.lay(cell, 1);
            ahead.pass(n, NOBODY);
            int paid = ahead.handsOfAll();
            if (paid < least) {
                least = paid;
                best = cell;
            }
        }
        return best < 0 ? findings.found(NONE) : best;
    }

    public int leave(int secret) {
        if (!isSecret(secret)) {
            return findings.found(BEYOND);
        }
        int best = -1;
        int soonest = NEAR_AHEAD + 1;
        for (int cell = 0; cell < CELLS; cell++) {
            ahead.become(live);
            ahead.putSecret(secret, cell);
            int after = ahead.minutesTillOut(secret, soonest - 1);
            if (after < soonest) {
                soonest = after;
                best = cell;
            }
        }
        return best < 0 ? findings.found(NONE) : best;
    }

    public int dismiss(int n) {
        if (!within(n, 1, NEAR_AHEAD)) {
            return findings.found(BEYOND);
        }
        int best = NOBODY;
        int least = ABOVE_ALL_HANDS;
        for (int idle = 0; idle < live.moles; idle++) {
            ahead.become(live);
            ahead.pass(n, idle);
            int paid = ahead.handsOfAll();
            if (paid < least) {
                least = paid;
                best = idle;
            }
        }
        return best < 0 ? findings.found(NONE) : best;
    }

    public int richest(int n) {
        if (!within(n, 0, FAR_AHEAD)) {
            return findings.found(BEYOND);
        }
        ahead.become(live);
        ahead.pass(n, NOBODY);
        int best = NOBODY;
        int most = -1;
        for (int mole = 0; mole < ahead.moles; mole++) {
            if (ahead.hands[mole] > most) {
                most = ahead.hands[mole];
                best = mole;
            }
        }
        return best < 0 ? findings.found(NONE) : best;
    }

    // ---- the text

    public int feed(int bytes, int n) {
        if (!within(n, 1, MOST_FED)) {
            return findings.found(BEYOND);
        }
        if (tape.length + n > TAPE_LENGTH) {
            return findings.found(FULL);
        }
        tape.append(bytes, n);
        return tape.length;
    }

    public int wipe() {
        int had = tape.length;
        tape.length = 0;
        return had;
    }

    public int shire() {
        // The ITEMS come to a trial first, so that a FAULT leaves what there is as it was.
        ahead.become(live);
        int answer = tape.play(ahead);
        tape.length = 0;
        if (answer >= 0) {
            live.become(ahead);
        }
        return answer;
    }

    // ---- sheets

    public int sheet(int s, int bits, int n) {
        if (!isSheet(s) || (bits != 0 && bits != 8 && bits != 16 && bits != 64)) {
            return findings.found(BEYOND);
        }
        if (n < 0) {
            return findings.found(SIZE);
        }
        if (n > SHEET_LENGTH) {
            return findings.found(BEYOND);
        }
        return sheets[s].renew(bits, bits == 0 ? 0 : n);
    }

    public long write(int s, int i, long v) {
        if (!isSheet(s)) {
            return findings.found(BEYOND);
        }
        Sheet sheet = sheets[s];
        if (sheet.isMissing()) {
            return findings.found(MISSING);
        }
        if (!within(i, 0, sheet.size - 1)) {
            return findings.found(BEYOND);
        }
        long was = sheet.numbers[i];
        sheet.put(i, v);
        return was;
    }

    public int copy(int s, int from, int t, int to, int n) {
        if (!isSheet(s) || !isSheet(t)) {
            return findings.found(BEYOND);
        }
        Sheet source = sheets[s];
        Sheet target = sheets[t];
        if (source.isMissing() || target.isMissing()) {
            return findings.found(MISSING);
        }
        if (source.bits != target.bits) {
            return findings.found(KIND);
        }
        if (!source.has(from, n) || !target.has(to, n)) {
            return findings.found(BEYOND);
        }
        System.arraycopy(source.numbers, from, target.numbers, to, n);
        return n;
    }

    public int lays(int s) {
        int finding = sheetFinding(s);
        if (finding != 0) {
            return findings.found(finding);
        }
        Sheet sheet = sheets[s];
        int came = 0;
        for (int cell = 0; cell < sheet.size && cell < CELLS; cell++) {
            long number = sheet.numbers[cell];
            if (number == 0 || number == 1) {
                live.lay(cell, (int) number);
                came++;
            }
        }
        return came;
    }

    public int book(int s, int mole) {
        int finding = sheetFinding(s);
        if (finding != 0) {
            return findings.found(finding);
        }
        if (!isMole(mole)) {
            return findings.found(BEYOND);
        }
        Sheet sheet = sheets[s];
        ahead.become(live);
        for (int i = 0; i < sheet.size; i++) {
            sheet.put(i, ahead.at[mole]);
            ahead.passOne(NOBODY);
        }
        return sheet.size;
    }

    public int read(int s, int mole) {
        int finding = sheetFinding(s);
        if (finding != 0) {
            return findings.found(finding);
        }
        if (!isMole(mole)) {
            return findings.found(BEYOND);
        }
        int pairs = 0;
        for (int kind = 0; kind < KINDS; kind++) {
            for (int end = 0; end < CELLS; end++) {
                ahead.become(live);
                ahead.kind[mole] = kind;
                ahead.end[mole] = end;
                if (goesAs(mole, sheets[s])) {
                    pairs++;
                }
            }
        }
        return pairs;
    }

    // ---- images

    public int image() {
        kept.become(live);
        isKept = true;
        return 1;
    }

    public int undo() {
        if (!isKept) {
            return findings.found(NONE);
        }
        live.become(kept);
        return live.moles;
    }

    public int tear() {
        int was = isKept ? 1 : 0;
        isKept = false;
        return was;
    }

    public int count(int what) {
        switch (what) {
            case 0: return live.moles;
            case 1: return tape.length;
            case 2: return Integer.bitCount(live.dugCells);
            case 3: return live.heapsOfAll();
            default: return findings.found(BEYOND);
        }
    }

    public int status(int which) {
        if (!within(which, -1, FINDINGS - 1)) {
            return findings.found(BEYOND);
        }
        return which < 0 ? findings.all() : findings.counts[which];
    }

    // ---- what the calls ask of their arguments

    private static boolean within(int v, int least, int most) {
        return v >= least && v <= most;
    }

    private static boolean isCell(int cell) {
        return within(cell, 0, CELLS - 1);
    }

    private static boolean isSecret(int secret) {
        return within(secret, 0, SECRETS - 1);
    }

    private static boolean isKind(int kind) {
        return within(kind, 0, KINDS - 1);
    }

    private static boolean isSheet(int s) {
        return within(s, 0, SHEETS - 1);
    }

    private boolean isMole(int mole) {
        return within(mole, 0, live.moles - 1);
    }

    private int sheetFinding(int s) {
        if (!isSheet(s)) {
            return BEYOND;
        }
        return sheets[s].isMissing() ? MISSING : 0;
    }

    private static int mostOf(int what) {
        switch (what) {
            case 4: return TO_END;
            case 5: return MOST_HANDS;
            default: return CELLS - 1;
        }
    }

    private static boolean isOneOf(Mole one, int kind) {
        switch (kind) {
            case 1: return one instanceof Digger;
            case 2: return one instanceof Carrier;
            case 3: return one instanceof Retired;
            case 4: return one instanceof Master;
            case 5: return one instanceof Hurrier;
            default: return true;
        }
    }

    // ---- what the calls answer

    private int cellFact(int cell, int what) {
        switch (what) {
            case 0: return live.isTunnel(cell) ? 1 : 0;
            case 1: return live.heaps[cell];
            case 2: return live.molesAt(cell);
            default: return live.secretsAt(cell);
        }
    }

    private int moleFact(int mole, int what) {
        switch (what) {
            case 0: return live.kind[mole];
            case 1: return live.at[mole];
            case 2: return live.home[mole];
            case 3: return live.end[mole];
            case 4: return live.way[mole];
            case 5: return live.hands[mole];
            case 6: return live.carries[mole];
            case 7: return live.stepsOf(mole);
            case 8: return 1 + live.kindOf(mole).diggingWay();
            default: return live.kindOf(mole).turnsFirst(live.at[mole] / ROW_LENGTH) ? 1 : 0;
        }
    }

    private int foundWithin(int after) {
        return after > FAR_AHEAD ? findings.found(NONE) : after;
    }

    private boolean goesAs(int mole, Sheet sheet) {
        for (int i = 0; i < sheet.size; i++) {
            if (sheet.numbers[i] != ahead.at[mole]) {
                return false;
            }
            ahead.passOne(NOBODY);
        }
        return true;
    }

    // ---- kinds of moles: each says only what it does otherwise than the KIND above it

    private static class Mole {
        String word() {
            return "mole";
        }

        int steps(int minute, boolean carrying) {
            return 1;
        }

        /** Before earth: 0 it digs and stays, 1 it digs and goes there, -1 it turns round. */
        int diggingWay() {
            return 0;
        }

        boolean turnsFirst(int row) {
            return false;
        }

        int payForCell() {
            return 2;
        }

        int payForSecret() {
            return 10;
        }
    }

    private static class Digger extends Mole {
        @Override
        String word() {
            return "digger";
        }

        @Override
        int diggingWay() {
            return 1;
        }

        @Override
        boolean turnsFirst(int row) {
            return true;
        }

        @Override
        int payForCell() {
            return 1;
        }
    }

    private static class Carrier extends Mole {
        @Override
        String word() {
            return "carrier";
        }

        @Override
        int steps(int minute, boolean carrying) {
            return super.steps(minute, carrying) + (carrying ? 1 : 0);
        }

        @Override
        int payForSecret() {
            return 15;
        }
    }

    private static final class Retired extends Mole {
        @Override
        String word() {
            return "retired";
        }

        @Override
        int steps(int minute, boolean carrying) {
            return minute % 3 == 0 ? 1 : 0;
        }

        @Override
        int diggingWay() {
            return -1;
        }

        @Override
        boolean turnsFirst(int row) {
            return true;
        }

        @Override
        int payForCell() {
            return 0;
        }

        @Override
        int payForSecret() {
            return 0;
        }
    }

    private static final class Master extends Digger {
        @Override
        String word() {
            return "master";
        }

        @Override
        int steps(int minute, boolean carrying) {
            return super.steps(minute, carrying) + 1;
        }

        @Override
        boolean turnsFirst(int row) {
            return row % 2 == 0 && super.turnsFirst(row);
        }

        @Override
        int payForSecret() {
            return super.payForSecret() + 4;
        }
    }

    private static final class Hurrier extends Carrier {
        @Override
        String word() {
            return "hurrier";
        }

        @Override
        int steps(int minute, boolean carrying) {
            return super.steps(minute, carrying) + 1;
        }

        @Override
        int payForSecret() {
            return 2 * super.payForSecret();
        }
    }

    /** All that section 1 tells but THE TAPE, and how a MINUTE goes. */
    private static final class Shire {
        final Mole[] kinds;
        int minute;
        int dugCells;
        int moles;
        final int[] heaps;
        final int[] lies;
        final int[] kind;
        final int[] at;
        final int[] home;
        final int[] end;
        final int[] way;
        final int[] hands;
        final int[] carries;

        Shire(Mole[] kinds) {
            this.kinds = kinds;
            heaps = new int[CELLS];
            lies = new int[SECRETS];
            Arrays.fill(lies, UNTOLD);
            kind = new int[MOST_MOLES];
            at = new int[MOST_MOLES];
            home = new int[MOST_MOLES];
            end = new int[MOST_MOLES];
            way = new int[MOST_MOLES];
            hands = new int[MOST_MOLES];
            carries = new int[MOST_MOLES];
        }

        void become(Shire other) {
            minute = other.minute;
            dugCells = other.dugCells;
            moles = other.moles;
            System.arraycopy(other.heaps, 0, heaps, 0, CELLS);
            System.arraycopy(other.lies, 0, lies, 0, SECRETS);
            System.arraycopy(other.kind, 0, kind, 0, MOST_MOLES);
            System.arraycopy(other.at, 0, at, 0, MOST_MOLES);
            System.arraycopy(other.home, 0, home, 0, MOST_MOLES);
            System.arraycopy(other.end, 0, end, 0, MOST_MOLES);
            System.arraycopy(other.way, 0, way, 0, MOST_MOLES);
            System.arraycopy(other.hands, 0, hands, 0, MOST_MOLES);
            System.arraycopy(other.carries, 0, carries, 0, MOST_MOLES);
        }

        boolean isFull() {
            return moles >= MOST_MOLES;
        }

        /** One more, where there is room for it (isFull() is asked ahead). */
        int contract(int itsKind, int itsHome, int itsEnd) {
            int mole = moles;
            kind[mole] = itsKind;
            at[mole] = itsHome;
            home[mole] = itsHome;
            end[mole] = itsEnd;
            way[mole] = TO_END;
            hands[mole] = 0;
            carries[mole] = NOTHING;
            moles++;
            return mole;
        }

        void lay(int cell, int v) {
            int bit = 1 << cell;
            dugCells = v == 1 ? dugCells | bit : dugCells & ~bit;
        }

        boolean isTunnel(int cell) {
            return ((dugCells >> cell) & 1) == 1;
        }

        void putSecret(int secret, int place) {
            for (int mole = 0; mole < moles; mole++) {
                if (carries[mole] == secret) {
                    carries[mole] = NOTHING;
                }
            }
            lies[secret] = place;
        }

        Mole kindOf(int mole) {
            return kinds[kind[mole]];
        }

        int stepsOf(int mole) {
            return kindOf(mole).steps(minute, carries[mole] != NOTHING);
        }

        int molesAt(int cell) {
            int there = 0;
            for (int mole = 0; mole < moles; mole++) {
                if (at[mole] == cell) {
                    there |= 1 << mole;
                }
            }
            return there;
        }

        /** SECRETS in a cell, or that are CARRIED or OUT, as a set. */
        int secretsAt(int place) {
            int there = 0;
            for (int secret = 0; secret < SECRETS; secret++) {
                if (lies[secret] == place) {
                    there |= 1 << secret;
                }
            }
            return there;
        }

        int heapsOfAll() {
            int all = 0;
            for (int cell = 0; cell < CELLS; cell++) {
                all += heaps[cell];
            }
            return all;
        }

        int handsOfAll() {
            int all = 0;
            for (int mole = 0; mole < moles; mole++) {
                all += hands[mole];
            }
            return all;
        }

        int minutesTillOut(int secret, int limit) {
            for (int n = 0; n <= limit; n++) {
                if (lies[secret] == OUT) {
                    return n;
                }
                passOne(NOBODY);
            }
            return limit + 1;
        }

        int minutesTillDug(int cell, int limit) {
            for (int n = 0; n <= limit; n++) {
                if (isTunnel(cell)) {
                    return n;
                }
                passOne(NOBODY);
            }
            return limit + 1;
        }

        int minutesTillAt(int mole, int cell, int limit) {
            for (int n = 0; n <= limit; n++) {
                if (at[mole] == cell) {
                    return n;
                }
                passOne(NOBODY);
            }
            return limit + 1;
        }

        void pass(int n, int idle) {
            for (int i = 0; i < n; i++) {
                passOne(idle);
            }
        }

        /** A MINUTE goes, in which one (or NOBODY) does nothing at all. */
        void passOne(int idle) {
            for (int mole = 0; mole < moles; mole++) {
                if (mole == idle) {
                    continue;
                }
                // Found out ahead of all, so that what is picked up in this MINUTE doesn't hasten it.
                int steps = stepsOf(mole);
                settle(mole);
                for (int i = 0; i < steps; i++) {
                    step(mole);
                    settle(mole);
                }
            }
            minute++;
        }

        /** What is done ahead of the first STEP (of none, too) and behind each. */
        void settle(int mole) {
            if (at[mole] == end[mole]) {
                bringOut(mole);
            } else if (carries[mole] == NOTHING) {
                pickUp(mole);
            }
            if (at[mole] == goalOf(mole)) {
                turnRound(mole);
            }
        }

        void bringOut(int mole) {
            if (carries[mole] == NOTHING) {
                return;
            }
            lies[carries[mole]] = OUT;
            carries[mole] = NOTHING;
            int cell = at[mole];
            heaps[cell] = Math.min(heaps[cell] + 1, MOST_HEAPS);
            pay(mole, kindOf(mole).payForSecret());
        }

        void pickUp(int mole) {
            for (int secret = 0; secret < SECRETS; secret++) {
                if (lies[secret] == at[mole]) {
                    lies[secret] = CARRIED;
                    carries[mole] = secret;
                    return;
                }
            }
        }

        void turnRound(int mole) {
            way[mole] = way[mole] == TO_END ? TO_HOME : TO_END;
        }

        void pay(int mole, int more) {
            hands[mole] = Math.min(hands[mole] + more, MOST_HANDS);
        }

        int goalOf(int mole) {
            return way[mole] == TO_END ? end[mole] : home[mole];
        }

        void step(int mole) {
            if (at[mole] == goalOf(mole)) {
                return;
            }
            int next = nextCell(mole);
            if (isTunnel(next)) {
                at[mole] = next;
                return;
            }
            int digging = kindOf(mole).diggingWay();
            if (digging < 0) {
                turnRound(mole);
                return;
            }
            lay(next, 1);
            pay(mole, kindOf(mole).payForCell());
            if (digging > 0) {
                at[mole] = next;
            }
        }

        /** The cell beside it towards its goal; it isn't there yet. */
        int nextCell(int mole) {
            int here = at[mole];
            int goal = goalOf(mole);
            int row = here / ROW_LENGTH;
            int goalRow = goal / ROW_LENGTH;
            int column = here % ROW_LENGTH;
            int goalColumn = goal % ROW_LENGTH;
            boolean byRow = row != goalRow
                && (column == goalColumn || kindOf(mole).turnsFirst(row));
            if (byRow) {
                return row < goalRow ? here + ROW_LENGTH : here - ROW_LENGTH;
            }
            return column < goalColumn ? here + 1 : here - 1;
        }
    }

    /** THE TAPE, and how it is understood as THE TEXT of a SHIRE. */
    private static final class Tape {
        private static final int ENDED = 0;
        private static final int WORD = 1;
        private static final int NUMBER = 2;
        private static final int SIGN = 3;
        private static final int STRANGE = 4;
        private static final int MOST_NUMBER = 999;

        final int[] bytes;
        int length;
        // The TOKEN looked at: what it is, its first byte, the byte behind it, what a NUMBER says.
        int token;
        int first;
        int behind;
        int number;

        Tape() {
            bytes = new int[TAPE_LENGTH];
        }

        /** The n lowest bytes of a number, where there is room for them. */
        void append(int fed, int n) {
            for (int i = n - 1; i >= 0; i--) {
                bytes[length] = (fed >> (8 * i)) & 255;
                length++;
            }
        }

        /** All ITEMS come to a shire: how many; with a FAULT: -1 less its place. */
        int play(Shire shire) {
            behind = 0;
            // An ITEM has more than one byte, so there are never as many as bytes.
            for (int items = 1; items <= TAPE_LENGTH; items++) {
                if (!playItem(shire)) {
                    return -1 - first;
                }
                advance();
                if (token == ENDED) {
                    return items;
                }
                if (token != SIGN) {
                    return -1 - first;
                }
            }
            return -1 - first;
        }

        /** One ITEM; if it can't be, the TOKEN looked at is the one that can't stand there. */
        boolean playItem(Shire shire) {
            advance();
            if (token != WORD) {
                return false;
            }
            if (isWord("dug")) {
                return playDug(shire);
            }
            if (isWord("secret")) {
                return playSecret(shire);
            }
            for (int kind = 0; kind < KINDS; kind++) {
                if (isWord(shire.kinds[kind].word())) {
                    return playMole(shire, kind);
                }
            }
            return false;
        }

        boolean playDug(Shire shire) {
            if (!takeNumber(CELLS - 1)) {
                return false;
            }
            shire.lay(number, 1);
            return true;
        }

        boolean playSecret(Shire shire) {
            if (!takeNumber(SECRETS - 1)) {
                return false;
            }
            int secret = number;
            if (!takeNumber(CELLS - 1)) {
                return false;
            }
            shire.putSecret(secret, number);
            return true;
        }

        boolean playMole(Shire shire, int kind) {
            if (shire.isFull() || !takeNumber(CELLS - 1)) {
                return false;
            }
            int home = number;
            if (!takeNumber(CELLS - 1)) {
                return false;
            }
            shire.contract(kind, home, number);
            return true;
        }

        boolean takeNumber(int most) {
            advance();
            return token == NUMBER && number <= most;
        }

        boolean isWord(String word) {
            if (behind - first != word.length()) {
                return false;
            }
            for (int i = 0; i < word.length(); i++) {
                if (bytes[first + i] != word.charAt(i)) {
                    return false;
                }
            }
            return true;
        }

        /** Looks at the next TOKEN; where there is none, its first byte is the one behind all. */
        void advance() {
            first = behind;
            while (first < length && bytes[first] == ' ') {
                first++;
            }
            behind = first;
            if (first >= length) {
                token = ENDED;
            } else if (isLetter(bytes[first])) {
                token = WORD;
                passWord();
            } else if (isDigit(bytes[first])) {
                token = NUMBER;
                passNumber();
            } else {
                token = bytes[first] == ';' ? SIGN : STRANGE;
                behind++;
            }
        }

        void passWord() {
            while (behind < length && isLetter(bytes[behind])) {
                behind++;
            }
        }

        void passNumber() {
            number = 0;
            while (behind < length && isDigit(bytes[behind])) {
                // One above the most says as well as any other that it may not be.
                number = Math.min(10 * number + bytes[behind] - '0', MOST_NUMBER + 1);
                behind++;
            }
        }

        static boolean isLetter(int b) {
            return b >= 'a' && b <= 'z';
        }

        static boolean isDigit(int b) {
            return b >= '0' && b <= '9';
        }
    }

    /** A row of numbers of as many bits, or MISSING. */
    private static final class Sheet {
        int bits;
        int size;
        final long[] numbers;

        Sheet() {
            numbers = new long[SHEET_LENGTH];
        }

        boolean isMissing() {
            return bits == 0;
        }

        int renew(int itsBits, int itsSize) {
            bits = itsBits;
            size = itsSize;
            Arrays.fill(numbers, 0L);
            return size;
        }

        boolean has(int from, int n) {
            // Not by from + n, which may be more than an int holds.
            return from >= 0 && n >= 0 && n <= size && from <= size - n;
        }

        void put(int i, long v) {
            switch (bits) {
                case 8: numbers[i] = (byte) v; break;
                case 16: numbers[i] = (short) v; break;
                default: numbers[i] = v; break;
            }
        }
    }

    /** How many acts answered a finding. */
    private static final class Findings {
        final int[] counts;

        Findings() {
            counts = new int[FINDINGS];
        }

        int found(int finding) {
            int which = BEYOND - finding;
            if (which >= 0 && which < FINDINGS) {
                counts[which]++;
            }
            return finding;
        }

        int all() {
            int all = 0;
            for (int which = 0; which < FINDINGS; which++) {
                all += counts[which];
            }
            return all;
        }
    }
}
