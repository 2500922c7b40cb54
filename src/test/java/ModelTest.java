import java.util.Arrays;
import java.util.Random;

/** All promises: long runs of calls, the same ones each time, are answered by the class as by the slow model. */
public final class ModelTest {
    private static final int RUNS = 60;
    private static final int CALLS = 512;
    private static final int[] EXTREMES = {Integer.MIN_VALUE, Integer.MIN_VALUE + 1, -1000000001, -3, -2, -1, 0, 1, 2, 3, 4, 5, 6,
        7, 29, 30, 40, 41, 60, 61, 99, 100, 101, 120, 200, 201, 9999, 10000, Integer.MAX_VALUE - 1, Integer.MAX_VALUE};
    // The calls by name, each as often as it is to come.
    private static final String[] NAMES = ("cell cell cellOf tell tell tell tell where now mole mole of of charges set set set turn as"
        + " minutes minutes minutes minutes on on then out dug comes kind kind lead dig leave leave dismiss richest feed wipe"
        + " shire sheet write write write copy copy lays book book read read image undo tear count status text text").split(" ");

    private final Random random;
    private final MoleSecrets x = new MoleSecrets();
    private final Model model = new Model();

    private ModelTest(long seed) {
        random = new Random(seed);
    }

    public static void main(String[] args) {
        Checks c = new Checks("ModelTest");
        int runs = args.length > 0 ? Integer.parseInt(args[0]) : RUNS;
        for (int run = 0; run < runs; run++) {
            new ModelTest(run).run(c, run);
        }
        c.end();
    }

    private void run(Checks c, int run) {
        int calls = 0;
        while (calls < CALLS) {
            String name = NAMES[random.nextInt(NAMES.length)];
            if (name.equals("text")) {
                calls += feedRandomText(c, run);
                continue;
            }
            // One mole more, and what throws much away, is only seldom due.
            if ((name.equals("undo") || name.equals("tear") || name.equals("wipe")) && random.nextInt(3) > 0) {
                continue;
            }
            int[] a = arguments(name);
            long v = random.nextInt(3) == 0 ? random.nextLong() : random.nextInt(36) - 3;
            one(c, run, name, a, v);
            calls++;
        }
        c.same("run " + run, Checks.state(x), stateOfModel());
    }

    private void one(Checks c, int run, String name, int[] a, long v) {
        c.due("run " + run + ": " + name + Arrays.toString(a), answer(name, a, v), model.call(name, a, v));
    }

    private int below(int n) {
        return random.nextInt(n);
    }

    private int[] arguments(String name) {
        int[] a = usual(name);
        if (below(14) == 0) {
            a[below(5)] = EXTREMES[below(EXTREMES.length)];
        }
        return a;
    }

    private int[] usual(String name) {
        int mole = below(Math.max(1, x.count(0)));
        switch (name) {
            case "cell": return below(4) > 0 ? row(below(30), 0, below(2)) : row(below(30), 1, below(5) == 0 ? 99 : below(100));
            case "cellOf": return row(below(30), below(4));
            case "tell": return row(below(6), below(8) == 0 ? -1 : below(4) == 0 ? below(30) : near(mole));
            case "where": case "out": case "leave": return row(below(6));
            case "now": return row(below(6));
            case "mole": return row(below(6), below(30), below(30));
            case "of": return row(mole, below(10));
            case "charges": return row(mole, below(2));
            case "set": return setRow(mole);
            case "turn": case "as": case "kind": return row(mole, below(6));
            case "minutes": return row(below(6) == 0 ? 1 + below(100) : 1 + below(5));
            case "on": return row(mole, below(201), below(3));
            case "then": return row(below(6), below(3) == 0 ? below(201) : below(30));
            case "dug": return row(below(30));
            case "comes": return row(mole, below(30));
            case "lead": return row(mole, 1 + below(60));
            case "dig": case "dismiss": return row(1 + below(below(2) == 0 ? 60 : 6));
            case "richest": return row(below(201));
            case "feed": return row(random.nextInt(), 1 + below(4));
            case "sheet": return row(below(4), new int[] {0, 8, 16, 64, 8}[below(5)], below(5) == 0 ? 40 - below(3) : below(12));
            case "write": return row(below(4), below(10));
            case "copy": return row(below(4), below(4), below(4), below(4), below(6));
            case "lays": return row(below(4));
            case "book": case "read": return row(below(4), mole);
            case "count": return row(below(4));
            case "status": return row(below(8) - 1);
            default: return row();
        }
    }

    private int[] setRow(int mole) {
        int what = 1 + below(5);
        return row(mole, what, what == 4 ? below(2) : what == 5 ? (below(3) == 0 ? 9999 - below(40) : below(50)) : below(30));
    }

    /** Where a mole is or will be, so that secrets are found at all. */
    private int near(int mole) {
        return x.count(0) == 0 ? below(30) : model.peek(mole, below(8));
    }

    private static int[] row(int... a) {
        return Arrays.copyOf(a, 5);
    }

    private int feedRandomText(Checks c, int run) {
        one(c, run, "wipe", row(), 0);
        StringBuilder text = new StringBuilder();
        int items = 1 + below(4);
        for (int i = 0; i < items; i++) {
            text.append(i == 0 ? "" : ";").append(" ".repeat(below(2))).append(randomItem()).append(" ".repeat(below(2)));
        }
        if (below(3) == 0) {
            spoil(text);
        }
        int calls = 2;
        for (int place = 0; place < text.length() && place < 130;) {
            int n = Math.min(1 + below(4), text.length() - place);
            int bytes = below(256);
            for (int i = 0; i < n; i++) {
                bytes = bytes << 8 | text.charAt(place + i);
            }
            one(c, run, "feed", row(bytes, n), 0);
            place += n;
            calls++;
        }
        one(c, run, "shire", row(), 0);
        return calls;
    }

    private String randomItem() {
        String[] words = {"dug", "secret", "secret", "mole", "digger", "carrier", "retired", "master", "hurrier"};
        String word = words[below(below(3) == 0 ? 9 : 3)];
        int most = below(12) == 0 ? 1100 : 30;
        String first = (below(9) == 0 ? "00" : "") + (word.equals("secret") && most == 30 ? below(6) : below(most));
        String blank = " ".repeat(below(2));
        return word.equals("dug") ? word + blank + first : word + blank + first + " " + below(most);
    }

    private void spoil(StringBuilder text) {
        int place = below(text.length());
        switch (below(4)) {
            case 0: text.deleteCharAt(place); break;
            case 1: text.insert(place, "; 9aZ\u00e9\t!/:`{".charAt(below(12))); break;
            case 2: text.setLength(place); break;
            default: text.append(text.charAt(place)); break;
        }
    }

    private String stateOfModel() {
        StringBuilder all = new StringBuilder();
        String[] calls = {"now", "cellOf", "where", "of"};
        int[] firsts = {6, 30, 6, (int) model.call("count", row(0), 0)};
        int[] seconds = {1, 4, 1, 10};
        for (int k = 0; k < 4; k++) {
            for (int i = 0; i < firsts[k]; i++) {
                for (int what = 0; what < seconds[k]; what++) {
                    all.append(model.call(calls[k], row(i, what), 0)).append(' ');
                }
            }
        }
        return all.append("tape ").append(model.call("count", row(1), 0)).toString();
    }

    private long answer(String name, int[] a, long v) {
        switch (name) {
            case "cell": return x.cell(a[0], a[1], a[2]);
            case "cellOf": return x.cellOf(a[0], a[1]);
            case "tell": return x.tell(a[0], a[1]);
            case "where": return x.where(a[0]);
            case "now": return x.now(a[0]);
            case "mole": return x.mole(a[0], a[1], a[2]);
            case "of": return x.of(a[0], a[1]);
            case "charges": return x.charges(a[0], a[1]);
            case "set": return x.set(a[0], a[1], a[2]);
            case "turn": return x.turn(a[0], a[1]);
            case "as": return x.as(a[0], a[1]);
            case "minutes": return x.minutes(a[0]);
            case "on": return x.on(a[0], a[1], a[2]);
            case "then": return x.then(a[0], a[1]);
            case "out": return x.out(a[0]);
            case "dug": return x.dug(a[0]);
            case "comes": return x.comes(a[0], a[1]);
            case "kind": return x.kind(a[0], a[1]);
            case "lead": return x.lead(a[0], a[1]);
            case "dig": return x.dig(a[0]);
            case "leave": return x.leave(a[0]);
            case "dismiss": return x.dismiss(a[0]);
            case "richest": return x.richest(a[0]);
            case "feed": return x.feed(a[0], a[1]);
            case "wipe": return x.wipe();
            case "shire": return x.shire();
            case "sheet": return x.sheet(a[0], a[1], a[2]);
            case "write": return x.write(a[0], a[1], v);
            case "copy": return x.copy(a[0], a[1], a[2], a[3], a[4]);
            case "lays": return x.lays(a[0]);
            case "book": return x.book(a[0], a[1]);
            case "read": return x.read(a[0], a[1]);
            case "image": return x.image();
            case "undo": return x.undo();
            case "tear": return x.tear();
            case "count": return x.count(a[0]);
            case "status": return x.status(a[0]);
            default: throw new IllegalArgumentException(name);
        }
    }
}
