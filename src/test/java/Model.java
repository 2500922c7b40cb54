import java.util.ArrayList;
import java.util.List;
import java.util.regex.Matcher;
import java.util.regex.Pattern;

/** The document once more, told as slowly and plainly as it can be, to hold the class against. */
final class Model {
    private static final int[] ABOVE = {-1, 0, 0, 0, 1, 2};
    private static final List<String> NAMES = List.of("mole", "digger", "carrier", "retired", "master", "hurrier");
    private static final Pattern TOKENS = Pattern.compile("[a-z]+|[0-9]+|[^ ]", Pattern.DOTALL);

    static final class One {
        int kind;
        int at;
        int home;
        int end;
        int way = 1;
        int hands = 0;
        int carries = -1;

        One(int kind, int home, int end) {
            this.kind = kind;
            this.at = home;
            this.home = home;
            this.end = end;
        }

        One twin() {
            One t = new One(kind, home, end);
            t.at = at;
            t.way = way;
            t.hands = hands;
            t.carries = carries;
            return t;
        }

        int goal() {
            return way == 1 ? end : home;
        }
    }

    static final class Land {
        int minute = 0;
        boolean[] dug = new boolean[30];
        int[] heaps = new int[30];
        int[] lies = {-1, -1, -1, -1, -1, -1};
        List<One> moles = new ArrayList<>();

        Land twin() {
            Land t = new Land();
            t.minute = minute;
            t.dug = dug.clone();
            t.heaps = heaps.clone();
            t.lies = lies.clone();
            for (One one : moles) {
                t.moles.add(one.twin());
            }
            return t;
        }

        Land ahead(int n) {
            Land t = twin();
            for (int i = 0; i < n; i++) {
                t.go(null);
            }
            return t;
        }

        void put(int secret, int where) {
            for (One one : moles) {
                if (one.carries == secret) {
                    one.carries = -1;
                }
            }
            lies[secret] = where;
        }

        void go(One idle) {
            for (One one : moles) {
                if (one == idle) {
                    continue;
                }
                int steps = steps(one.kind, minute, one.carries >= 0);
                look(one);
                while (steps > 0) {
                    step(one);
                    look(one);
                    steps--;
                }
            }
            minute++;
        }

        void look(One one) {
            if (one.at == one.end && one.carries >= 0) {
                lies[one.carries] = -3;
                heaps[one.at] = Math.min(99, heaps[one.at] + 1);
                one.hands = Math.min(9999, one.hands + forSecret(one.kind));
                one.carries = -1;
            }
            if (one.carries < 0 && one.at != one.end) {
                for (int s = 5; s >= 0; s--) {
                    if (lies[s] == one.at) {
                        one.carries = s;
                    }
                }
                if (one.carries >= 0) {
                    lies[one.carries] = -2;
                }
            }
            if (one.at == one.goal()) {
                one.way = 1 - one.way;
            }
        }

        void step(One one) {
            int goal = one.goal();
            if (one.at == goal) {
                return;
            }
            int down = Integer.signum(goal / 6 - one.at / 6) * 6;
            int along = Integer.signum(goal % 6 - one.at % 6);
            int first = turnsFirst(one.kind, one.at / 6) ? down : along;
            int second = first == down ? along : down;
            int next = one.at + (first != 0 ? first : second);
            int digs = digs(one.kind);
            if (!dug[next] && digs == -1) {
                one.way = 1 - one.way;
                return;
            }
            boolean was = dug[next];
            if (!was) {
                dug[next] = true;
                one.hands = Math.min(9999, one.hands + forCell(one.kind));
            }
            if (was || digs == 1) {
                one.at = next;
            }
        }

        int set(int where) {
            int set = 0;
            for (int s = 0; s < 6; s++) {
                set += lies[s] == where ? 1 << s : 0;
            }
            return set;
        }

        int hands() {
            return moles.stream().mapToInt(one -> one.hands).sum();
        }

        int heaps() {
            int sum = 0;
            for (int h : heaps) {
                sum += h;
            }
            return sum;
        }

        int dugSet() {
            int set = 0;
            for (int i = 0; i < 30; i++) {
                set += dug[i] ? 1 << i : 0;
            }
            return set;
        }

        int out(int secret, int within) {
            for (int n = 0; n <= within; n++) {
                if (ahead(n).lies[secret] == -3) {
                    return n;
                }
            }
            return within + 1;
        }
    }

    static int steps(int kind, int t, boolean carrying) {
        switch (kind) {
            case 2: return steps(0, t, carrying) + (carrying ? 1 : 0);
            case 3: return t % 3 == 0 ? 1 : 0;
            case 4: return steps(1, t, carrying) + 1;
            case 5: return steps(2, t, carrying) + 1;
            default: return 1;
        }
    }

    static int digs(int kind) {
        return kind == 3 ? -1 : kind == 1 || kind == 4 ? 1 : 0;
    }

    static boolean turnsFirst(int kind, int row) {
        return kind == 1 || kind == 3 || kind == 4 && row % 2 == 0;
    }

    static int forCell(int kind) {
        return new int[] {2, 1, 2, 0, 1, 2}[kind];
    }

    static int forSecret(int kind) {
        return new int[] {10, 10, 15, 0, 14, 30}[kind];
    }

    private Land land = new Land();
    private Land image = null;
    private String tape = "";
    private final long[][] sheets = new long[4][];
    private final int[] bits = new int[4];
    private final int[] found = new int[7];

    private int finding(int f) {
        found[Checks.BEYOND - f]++;
        return f;
    }

    private int beyond() {
        return finding(Checks.BEYOND);
    }

    private static boolean in(int v, int least, int most) {
        return least <= v && v <= most;
    }

    private boolean one(int mole) {
        return in(mole, 0, land.moles.size() - 1);
    }

    /** Where one will be, asked without a call. */
    int peek(int mole, int n) {
        return land.ahead(n).moles.get(mole).at;
    }

    /** One call by its name. */
    long call(String name, int[] a, long v) {
        switch (name) {
            case "cell": return cell(a[0], a[1], a[2]);
            case "cellOf": return cellOf(a[0], a[1]);
            case "tell": return tell(a[0], a[1]);
            case "where": return in(a[0], 0, 5) ? land.lies[a[0]] : beyond();
            case "now": return now(a[0]);
            case "mole": return mole(a[0], a[1], a[2]);
            case "of": return of(a[0], a[1]);
            case "charges": return charges(a[0], a[1]);
            case "set": return set(a[0], a[1], a[2]);
            case "turn": return turn(a[0], a[1]);
            case "as": return as(a[0], a[1]);
            case "minutes": return minutes(a[0]);
            case "on": return on(a[0], a[1], a[2]);
            case "then": return in(a[0], 0, 5) && in(a[1], 0, 200) ? land.ahead(a[1]).lies[a[0]] : beyond();
            case "out": return out(a[0]);
            case "dug": return dug(a[0]);
            case "comes": return comes(a[0], a[1]);
            case "kind": return kind(a[0], a[1]);
            case "lead": return lead(a[0], a[1]);
            case "dig": return dig(a[0]);
            case "leave": return leave(a[0]);
            case "dismiss": return dismiss(a[0]);
            case "richest": return richest(a[0]);
            case "feed": return feed(a[0], a[1]);
            case "wipe": return wipe();
            case "shire": return shire();
            case "sheet": return sheet(a[0], a[1], a[2]);
            case "write": return write(a[0], a[1], v);
            case "copy": return copy(a[0], a[1], a[2], a[3], a[4]);
            case "lays": return lays(a[0]);
            case "book": return book(a[0], a[1]);
            case "read": return read(a[0], a[1]);
            case "image": image = land.twin(); return 1;
            case "undo": return undo();
            case "tear": return tear();
            case "count": return count(a[0]);
            case "status": return status(a[0]);
            default: throw new IllegalArgumentException(name);
        }
    }

    private int cell(int cell, int what, int v) {
        if (!in(cell, 0, 29) || !in(what, 0, 1) || !in(v, 0, what == 0 ? 1 : 99)) {
            return beyond();
        }
        int was = what == 0 ? (land.dug[cell] ? 1 : 0) : land.heaps[cell];
        if (what == 0) {
            land.dug[cell] = v == 1;
        } else {
            land.heaps[cell] = v;
        }
        return was;
    }

    private int cellOf(int cell, int what) {
        if (!in(cell, 0, 29) || !in(what, 0, 3)) {
            return beyond();
        }
        if (what == 0) {
            return land.dug[cell] ? 1 : 0;
        }
        if (what == 1) {
            return land.heaps[cell];
        }
        if (what == 3) {
            return land.set(cell);
        }
        int set = 0;
        for (int m = 0; m < land.moles.size(); m++) {
            set += land.moles.get(m).at == cell ? 1 << m : 0;
        }
        return set;
    }

    private int tell(int secret, int cell) {
        if (!in(secret, 0, 5) || !in(cell, -1, 29)) {
            return beyond();
        }
        int was = land.lies[secret];
        land.put(secret, cell);
        return was;
    }

    private int now(int what) {
        switch (what) {
            case 0: return land.minute;
            case 1: return land.dugSet();
            case 2: return land.heaps();
            case 3: return land.set(-3);
            case 4: return land.set(-2);
            case 5: return land.hands();
            default: return beyond();
        }
    }

    private int mole(int kind, int home, int end) {
        if (!in(kind, 0, 5) || !in(home, 0, 29) || !in(end, 0, 29)) {
            return beyond();
        }
        if (land.moles.size() == 6) {
            return finding(Checks.FULL);
        }
        land.moles.add(new One(kind, home, end));
        return land.moles.size() - 1;
    }

    private int of(int mole, int what) {
        if (!one(mole) || !in(what, 0, 9)) {
            return beyond();
        }
        One m = land.moles.get(mole);
        int[] all = {m.kind, m.at, m.home, m.end, m.way, m.hands, m.carries, steps(m.kind, land.minute, m.carries >= 0),
            1 + digs(m.kind), turnsFirst(m.kind, m.at / 6) ? 1 : 0};
        return all[what];
    }

    private int charges(int mole, int what) {
        if (!one(mole) || !in(what, 0, 1)) {
            return beyond();
        }
        int kind = land.moles.get(mole).kind;
        return what == 0 ? forCell(kind) : forSecret(kind);
    }

    private int set(int mole, int what, int v) {
        if (!one(mole) || !in(what, 1, 5) || !in(v, 0, new int[] {0, 29, 29, 29, 1, 9999}[what])) {
            return beyond();
        }
        One m = land.moles.get(mole);
        int was = new int[] {0, m.at, m.home, m.end, m.way, m.hands}[what];
        m.at = what == 1 ? v : m.at;
        m.home = what == 2 ? v : m.home;
        m.end = what == 3 ? v : m.end;
        m.way = what == 4 ? v : m.way;
        m.hands = what == 5 ? v : m.hands;
        return was;
    }

    private int turn(int mole, int kind) {
        if (!one(mole) || !in(kind, 0, 5)) {
            return beyond();
        }
        int was = land.moles.get(mole).kind;
        land.moles.get(mole).kind = kind;
        return was;
    }

    private int as(int mole, int kind) {
        if (!one(mole) || !in(kind, 0, 5)) {
            return beyond();
        }
        for (int k = land.moles.get(mole).kind; k >= 0; k = ABOVE[k]) {
            if (k == kind) {
                return land.moles.get(mole).hands;
            }
        }
        return finding(Checks.KIND);
    }

    private int minutes(int n) {
        if (!in(n, 1, 100)) {
            return beyond();
        }
        if (land.minute + n > 99999) {
            return finding(Checks.STATE);
        }
        land = land.ahead(n);
        return land.set(-3);
    }

    private int on(int mole, int n, int what) {
        if (!one(mole) || !in(n, 0, 200) || !in(what, 0, 2)) {
            return beyond();
        }
        One m = land.ahead(n).moles.get(mole);
        return what == 0 ? m.at : what == 1 ? m.hands : m.carries;
    }

    private int out(int secret) {
        if (!in(secret, 0, 5)) {
            return beyond();
        }
        int n = land.out(secret, 200);
        return n == 201 ? finding(Checks.NONE) : n;
    }

    private int dug(int cell) {
        if (!in(cell, 0, 29)) {
            return beyond();
        }
        Land t = land.twin();
        for (int n = 0; n <= 200; n++) {
            if (t.dug[cell]) {
                return n;
            }
            t.go(null);
        }
        return finding(Checks.NONE);
    }

    private int comes(int mole, int cell) {
        if (!one(mole) || !in(cell, 0, 29)) {
            return beyond();
        }
        Land t = land.twin();
        for (int n = 0; n <= 200; n++) {
            if (t.moles.get(mole).at == cell) {
                return n;
            }
            t.go(null);
        }
        return finding(Checks.NONE);
    }

    /** The place of the least number, the first of several. */
    private static int least(int[] numbers) {
        int best = 0;
        for (int i = 1; i < numbers.length; i++) {
            if (numbers[i] < numbers[best]) {
                best = i;
            }
        }
        return best;
    }

    private int kind(int mole, int secret) {
        if (!one(mole) || !in(secret, 0, 5)) {
            return beyond();
        }
        int[] after = new int[6];
        for (int k = 0; k < 6; k++) {
            Land t = land.twin();
            t.moles.get(mole).kind = k;
            after[k] = t.out(secret, 200);
        }
        return least(after);
    }

    private int lead(int mole, int n) {
        if (!one(mole) || !in(n, 1, 60)) {
            return beyond();
        }
        int[] missing = new int[30];
        for (int e = 0; e < 30; e++) {
            Land t = land.twin();
            t.moles.get(mole).end = e;
            missing[e] = 6 - Integer.bitCount(t.ahead(n).set(-3));
        }
        return least(missing);
    }

    private int dig(int n) {
        if (!in(n, 1, 60)) {
            return beyond();
        }
        int[] paid = new int[30];
        for (int cell = 0; cell < 30; cell++) {
            Land t = land.twin();
            t.dug[cell] = true;
            paid[cell] = land.dug[cell] ? Integer.MAX_VALUE : t.ahead(n).hands();
        }
        int best = least(paid);
        return land.dug[best] ? finding(Checks.NONE) : best;
    }

    private int leave(int secret) {
        if (!in(secret, 0, 5)) {
            return beyond();
        }
        int[] after = new int[30];
        for (int cell = 0; cell < 30; cell++) {
            Land t = land.twin();
            t.put(secret, cell);
            after[cell] = t.out(secret, 60);
        }
        int best = least(after);
        return after[best] > 60 ? finding(Checks.NONE) : best;
    }

    private int dismiss(int n) {
        if (!in(n, 1, 60)) {
            return beyond();
        }
        if (land.moles.isEmpty()) {
            return finding(Checks.NONE);
        }
        int[] paid = new int[land.moles.size()];
        for (int m = 0; m < paid.length; m++) {
            Land t = land.twin();
            for (int i = 0; i < n; i++) {
                t.go(t.moles.get(m));
            }
            paid[m] = t.hands();
        }
        return least(paid);
    }

    private int richest(int n) {
        if (!in(n, 0, 200)) {
            return beyond();
        }
        if (land.moles.isEmpty()) {
            return finding(Checks.NONE);
        }
        Land t = land.ahead(n);
        return least(t.moles.stream().mapToInt(one -> -one.hands).toArray());
    }

    private int feed(int bytes, int n) {
        if (!in(n, 1, 4)) {
            return beyond();
        }
        if (tape.length() + n > 120) {
            return finding(Checks.FULL);
        }
        String fed = "";
        for (int i = 0; i < n; i++) {
            fed = (char) (bytes & 255) + fed;
            bytes >>>= 8;
        }
        tape += fed;
        return tape.length();
    }

    private int wipe() {
        int had = tape.length();
        tape = "";
        return had;
    }

    private int shire() {
        List<String> tokens = new ArrayList<>();
        List<Integer> places = new ArrayList<>();
        Matcher m = TOKENS.matcher(tape);
        while (m.find()) {
            tokens.add(m.group());
            places.add(m.start());
        }
        tokens.add("");
        places.add(tape.length());
        tape = "";
        Land t = land.twin();
        int i = 0;
        for (int items = 1;; items++) {
            String word = tokens.get(i);
            int kind = NAMES.indexOf(word);
            int[] most = word.equals("dug") ? new int[] {29} : word.equals("secret") ? new int[] {5, 29}
                : kind >= 0 && t.moles.size() < 6 ? new int[] {29, 29} : null;
            if (most == null) {
                return -1 - places.get(i);
            }
            int[] numbers = new int[2];
            for (int k = 0; k < most.length; k++) {
                i++;
                String number = tokens.get(i);
                if (!number.matches("0*[0-9]{1,3}") || Integer.parseInt("0" + number.replaceFirst("^0+", "")) > most[k]) {
                    return -1 - places.get(i);
                }
                numbers[k] = Integer.parseInt("0" + number.replaceFirst("^0+", ""));
            }
            if (kind >= 0) {
                t.moles.add(new One(kind, numbers[0], numbers[1]));
            } else if (word.equals("dug")) {
                t.dug[numbers[0]] = true;
            } else {
                t.put(numbers[0], numbers[1]);
            }
            i++;
            if (tokens.get(i).isEmpty()) {
                land = t;
                return items;
            }
            if (!tokens.get(i).equals(";")) {
                return -1 - places.get(i);
            }
            i++;
        }
    }

    private int sheet(int s, int b, int n) {
        if (!in(s, 0, 3) || !List.of(0, 8, 16, 64).contains(b)) {
            return beyond();
        }
        if (n < 0) {
            return finding(Checks.SIZE);
        }
        if (n > 40) {
            return beyond();
        }
        bits[s] = b;
        sheets[s] = b == 0 ? null : new long[n];
        return b == 0 ? 0 : n;
    }

    private long fit(int s, long v) {
        return v << (64 - bits[s]) >> (64 - bits[s]);
    }

    private long write(int s, int i, long v) {
        if (!in(s, 0, 3)) {
            return beyond();
        }
        if (sheets[s] == null) {
            return finding(Checks.MISSING);
        }
        if (!in(i, 0, sheets[s].length - 1)) {
            return beyond();
        }
        long was = sheets[s][i];
        sheets[s][i] = fit(s, v);
        return was;
    }

    private int copy(int s, int from, int t, int to, int n) {
        if (!in(s, 0, 3) || !in(t, 0, 3)) {
            return beyond();
        }
        if (sheets[s] == null || sheets[t] == null) {
            return finding(Checks.MISSING);
        }
        if (bits[s] != bits[t]) {
            return finding(Checks.KIND);
        }
        if (from < 0 || to < 0 || n < 0 || (long) from + n > sheets[s].length || (long) to + n > sheets[t].length) {
            return beyond();
        }
        long[] were = sheets[s].clone();
        for (int i = 0; i < n; i++) {
            sheets[t][to + i] = were[from + i];
        }
        return n;
    }

    private int lays(int s) {
        if (!in(s, 0, 3)) {
            return beyond();
        }
        if (sheets[s] == null) {
            return finding(Checks.MISSING);
        }
        int came = 0;
        for (int i = 0; i < sheets[s].length; i++) {
            if (i < 30 && (sheets[s][i] == 0L || sheets[s][i] == 1L)) {
                land.dug[i] = sheets[s][i] == 1L;
                came++;
            }
        }
        return came;
    }

    private int book(int s, int mole) {
        if (!in(s, 0, 3)) {
            return beyond();
        }
        if (sheets[s] == null) {
            return finding(Checks.MISSING);
        }
        if (!one(mole)) {
            return beyond();
        }
        for (int i = 0; i < sheets[s].length; i++) {
            sheets[s][i] = land.ahead(i).moles.get(mole).at;
        }
        return sheets[s].length;
    }

    private int read(int s, int mole) {
        if (!in(s, 0, 3)) {
            return beyond();
        }
        if (sheets[s] == null) {
            return finding(Checks.MISSING);
        }
        if (!one(mole)) {
            return beyond();
        }
        int pairs = 0;
        for (int pair = 0; pair < 180; pair++) {
            Land t = land.twin();
            t.moles.get(mole).kind = pair / 30;
            t.moles.get(mole).end = pair % 30;
            boolean so = true;
            for (long number : sheets[s]) {
                so &= number == t.moles.get(mole).at;
                t.go(null);
            }
            pairs += so ? 1 : 0;
        }
        return pairs;
    }

    private int undo() {
        if (image == null) {
            return finding(Checks.NONE);
        }
        land = image.twin();
        return land.moles.size();
    }

    private int tear() {
        int was = image == null ? 0 : 1;
        image = null;
        return was;
    }

    private int count(int what) {
        switch (what) {
            case 0: return land.moles.size();
            case 1: return tape.length();
            case 2: return Integer.bitCount(land.dugSet());
            case 3: return land.heaps();
            default: return beyond();
        }
    }

    private int status(int which) {
        if (!in(which, -1, 6)) {
            return beyond();
        }
        int all = 0;
        for (int f : found) {
            all += f;
        }
        return which == -1 ? all : found[which];
    }
}
