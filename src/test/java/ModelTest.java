import java.util.Random;

/** Random runs of calls on the class and on the Model: each answer must be the same. */
public final class ModelTest {
    private static final int RUNS = 1500;
    private static final int TEXTS = 12000;
    /** An object is used for at most 512 calls: none begins what may take a hundred calls and more behind so many. */
    private static final int ENOUGH = 360;
    private static final int[] WILD = {Integer.MIN_VALUE, -2147483647, -1000, -2, 41, 100, 256, 1000, 1 << 30,
        Integer.MAX_VALUE - 1, Integer.MAX_VALUE};

    private final Random random;
    private DewWages x = new DewWages();
    private Model m = new Model();
    private final StringBuilder told = new StringBuilder();
    private int calls;

    private ModelTest(long seed) {
        random = new Random(seed);
    }

    public static void main(String[] args) {
        for (int run = 0; run < RUNS && Checks.wrongs() == 0; run++) {
            new ModelTest(run).run();
        }
        ModelTest texts = new ModelTest(-1);
        for (int i = 0; i < TEXTS && Checks.wrongs() == 0; i++) {
            texts.text();
        }
        Checks.finish();
    }

    private int pick(int n) {
        return random.nextInt(n);
    }

    /** Mostly below n, sometimes just outside, seldom far outside. */
    private int near(int n) {
        int kind = pick(40);
        return kind == 0 ? WILD[pick(WILD.length)] : kind < 4 ? pick(n + 3) - 1 : pick(n);
    }

    private void same(String call, int got, int want) {
        told.append(call).append('\n');
        calls++;
        if (got != want) {
            System.out.println(told);
        }
        Checks.is(call, got, want);
    }

    private void same(String call, boolean got, boolean want) {
        same(call, got ? 1 : 0, want ? 1 : 0);
    }

    private void run() {
        if (pick(12) > 0) {
            valley(new Texts(random).valley());
        }
        while (calls < ENOUGH && Checks.wrongs() == 0) {
            call();
            tell();
        }
    }

    /** A text alone, often with a fault: what valley() and fault() answer. */
    private void text() {
        if (calls >= ENOUGH) {
            x = new DewWages();
            m = new Model();
            calls = 0;
            told.setLength(0);
        }
        String text = new Texts(random).valley();
        valley(pick(4) == 0 ? text : new Texts(random).spoilt(text));
        same("has(2)", x.has(2), m.has(2));
        same("status(1)", x.status(1), m.status(1));
    }

    private void valley(String text) {
        told.append(text).append('\n');
        tape(Checks.bytes(text));
        same("valley()", x.valley(), m.valley());
        same("fault(0)", x.fault(0), m.fault(0));
        same("fault(1)", x.fault(1), m.fault(1));
    }

    private void tape(byte[] row) {
        same("end(0)", x.end(0), m.end(0));
        for (int i = 0; i < row.length; i += 20) {
            feed(Checks.four(row, i), Checks.four(row, i + 4), Checks.four(row, i + 8), Checks.four(row, i + 12),
                Checks.four(row, i + 16));
        }
        same("end(n)", x.end(row.length), m.end(row.length));
    }

    private void feed(int a, int b, int c, int d, int e) {
        same("feed", x.feed(a, b, c, d, e), m.feed(a, b, c, d, e));
    }

    private void call() {
        int p = near(Math.max(1, m.has(2)));
        int c = near(Math.max(1, m.has(0)));
        int r = near(Math.max(1, m.has(1)));
        switch (pick(25)) {
            case 0: act(p, c, r); break;
            case 1: act(p, c, r); break;
            case 2: act(p, c, r); break;
            case 3: acts(); break;
            case 4: acts(); break;
            case 5: tapes(); break;
            case 6: see(); break;
            case 7: image(); break;
            case 8: seen(); break;
            default: ask(p, c, r); break;
        }
    }

    private void act(int p, int c, int r) {
        int hour = near(9);
        int sheet = near(100);
        switch (pick(3)) {
            case 0: same("rise " + p + " " + hour, x.rise(p, hour), m.rise(p, hour)); break;
            case 1: same("move " + p + " " + c + " " + r, x.move(p, c, r), m.move(p, c, r)); break;
            default: same("weave " + p + " " + sheet, x.weave(p, sheet), m.weave(p, sheet)); break;
        }
    }

    private void acts() {
        int n = pick(3) == 0 ? near(42) : 1 + pick(4);
        int seed = pick(3) == 0 ? near(9) : random.nextInt();
        switch (pick(4)) {
            case 0: same("days " + n, x.days(n), m.days(n)); break;
            case 1: same("chance " + n, x.chance(n), m.chance(n)); break;
            case 2: same("seed " + seed, x.seed(seed), m.seed(seed)); break;
            default:
                for (int i = pick(5) == 0 ? 22 : 1; i > 0; i--) {
                    same("undo", x.undo(), m.undo());
                }
                break;
        }
    }

    private void tapes() {
        int n = near(1601);
        switch (pick(6)) {
            case 0: same("end " + n, x.end(n), m.end(n)); break;
            case 1: feed(random.nextInt(), random.nextInt(), -1, 0, pick(9)); break;
            case 2: same("see", x.see(), m.see()); break;
            case 3: same("on", x.on(), m.on()); break;
            case 4:
                for (int i = 0; i < 81; i++) {
                    feed(i, 32, 32, 32, 32);
                }
                break;
            default: valley(new Texts(random).spoilt(new Texts(random).valley())); break;
        }
    }

    private void see() {
        int rows = pick(10) == 0 ? near(18) : 1 + pick(3);
        byte[] row = new byte[Math.max(0, Math.min(80, 4 * rows + (pick(12) == 0 ? 1 : 0)))];
        Model.World[] hours = new Model.World[9];
        int set = pick(64);
        for (int h = 0; h < 9; h++) {
            hours[h] = Model.behind(m.w, h, set);
        }
        for (int i = 0; i + 3 < row.length; i += 4) {
            int h = pick(9);
            int c = pick(Math.max(1, m.has(0)));
            int r = pick(Math.max(1, m.has(1)));
            row[i] = (byte) h;
            row[i + 1] = (byte) c;
            row[i + 2] = (byte) r;
            row[i + 3] = (byte) (pick(20) == 0 || m.has(0) == 0 ? pick(102) : hours[h].dew[c][r]);
            if (pick(30) == 0) {
                row[i + pick(4)] = (byte) pick(256);
            }
        }
        tape(row);
        same("see", x.see(), m.see());
    }

    private void seen() {
        if (m.has(2) > 3 && pick(3) > 0) {
            return;
        }
        for (int what = -1; what < 3; what++) {
            same("walkers " + what, x.walkers(what), m.walkers(what));
        }
        for (int what = -1; what < 5; what++) {
            same("tells " + what, x.tells(what), m.tells(what));
        }
    }

    private void image() {
        same("image", x.image(), m.image());
        byte[] row = new byte[m.image.length];
        for (int k = -1; k <= row.length; k++) {
            same("octet " + k, x.octet(k), m.octet(k));
            if (k >= 0 && k < row.length) {
                row[k] = (byte) m.octet(k);
            }
        }
        if (pick(2) == 0) {
            return;
        }
        if (pick(2) == 0) {
            spoil(row);
        }
        if (pick(3) == 0) {
            acts();
        }
        tape(row);
        same("on", x.on(), m.on());
    }

    /** Other numbers, mostly with a good check byte behind them. */
    private void spoil(byte[] row) {
        for (int n = pick(3); n >= 0; n--) {
            row[pick(row.length)] = (byte) (pick(2) == 0 ? pick(10) : pick(256));
        }
        if (pick(3) == 0) {
            isLate(row);
        }
        int c = 223;
        for (int i = 0; i < row.length - 1; i++) {
            c = (5 * c + (row[i] & 255)) % 251;
        }
        if (pick(5) > 0) {
            row[row.length - 1] = (byte) c;
        }
    }

    /** One of the last DAYS (955 .. 999), the last one often. */
    private void isLate(byte[] row) {
        int day = pick(3) == 0 ? 999 : 955 + pick(45);
        row[0] = (byte) (day >> 8);
        row[1] = (byte) day;
    }

    private void ask(int p, int c, int r) {
        int what = near(4);
        int hour = near(9);
        int n = pick(3) == 0 ? near(41) : pick(6);
        int k = near(6) - 1;
        switch (pick(11)) {
            case 0: same("today " + p + " " + hour + " " + what, x.today(p, hour, what), m.today(p, hour, what)); break;
            case 1: same("dew", x.dew(c, r, hour - 1), m.dew(c, r, hour - 1)); break;
            case 2: same("up " + p + " " + what, x.up(p, what), m.up(p, what)); break;
            case 3: same("home " + p + " " + what, x.home(p, what), m.home(p, what)); break;
            case 4: way(p, pick(4) == 0 ? near(7) : 1 + pick(3), k); break;
            case 5: same("changed " + what, x.changed(what), m.changed(what)); break;
            case 6: same("later " + c + " " + r + " " + n, x.later(c, r, n), m.later(c, r, n)); break;
            case 7: same("purse " + p + " " + n, x.purse(p, n), m.purse(p, n)); break;
            case 8: same("dry " + p, x.dry(p), m.dry(p)); break;
            case 9: same("kept " + n, x.kept(n, what), m.kept(n, what)); break;
            default: same("letter " + p, x.letter(p, k), m.letter(p, k)); break;
        }
    }

    private void way(int p, int n, int k) {
        if (n == 5 && pick(4) > 0) {
            return;
        }
        same("way " + p + " " + n + " " + k, x.way(p, n, k), m.way(p, n, k));
        same("way " + p + " " + n, x.way(p, n, -1), m.way(p, n, -1));
    }

    /** Some of what can be asked at no cost, behind each call. */
    private void tell() {
        for (int i = 0; i < 5; i++) {
            int what = near(11);
            int p = near(Math.max(1, m.has(2)));
            int k = near(Math.max(1, m.has(6)));
            switch (i + pick(2)) {
                case 0:
                case 1: same("has " + what, x.has(what), m.has(what)); break;
                case 2: same("status " + what, x.status(what), m.status(what)); break;
                case 3: same("person " + p + " " + what, x.person(p, what), m.person(p, what)); break;
                case 4: cell(); break;
                default: same("kept " + k + " " + what % 3, x.kept(k, what % 3), m.kept(k, what % 3)); break;
            }
        }
    }

    private void cell() {
        int c = near(Math.max(1, m.has(0)));
        int r = near(Math.max(1, m.has(1)));
        same("cell " + c + " " + r, x.cell(c, r), m.cell(c, r));
    }
}
