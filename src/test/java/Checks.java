import java.nio.charset.StandardCharsets;

/** Counts what is as due and what is not, and brings texts on the tape. */
final class Checks {
    static final String STAY = "checks.stay";

    private static int good;
    private static int wrong;

    private Checks() {
    }

    static void is(String what, long got, long want) {
        if (got == want) {
            good++;
        } else {
            wrong++;
            if (wrong <= 50) {
                System.out.println(what + " answered " + got + ", due is " + want);
            }
        }
    }

    static void is(String what, boolean got, boolean want) {
        is(what, got ? 1 : 0, want ? 1 : 0);
    }

    static int wrongs() {
        return wrong;
    }

    /** Ends the run when an answer was not as due, but where BrokenTest looks on. */
    static void finish() {
        System.out.println(good + " answers as due, " + wrong + " not");
        if ((wrong > 0 || good == 0) && !Boolean.getBoolean(STAY)) {
            System.exit(1);
        }
    }

    static byte[] bytes(String text) {
        return text.getBytes(StandardCharsets.ISO_8859_1);
    }

    static byte[] bytes(int... numbers) {
        byte[] row = new byte[numbers.length];
        for (int i = 0; i < row.length; i++) {
            row[i] = (byte) numbers[i];
        }
        return row;
    }

    /** The number that feed() asks for: four bytes, blanks behind the last one. */
    static int four(byte[] row, int from) {
        int n = 0;
        for (int i = from; i < from + 4; i++) {
            n = n << 8 | (i < row.length ? row[i] & 255 : ' ');
        }
        return n;
    }

    /** The tape holds just these bytes. */
    static void tape(DewWages x, byte[] row) {
        x.end(0);
        for (int i = 0; i < row.length; i += 20) {
            x.feed(four(row, i), four(row, i + 4), four(row, i + 8), four(row, i + 12), four(row, i + 16));
        }
        x.end(row.length);
    }

    static int valley(DewWages x, String text) {
        tape(x, bytes(text));
        return x.valley();
    }

    /** A new object with this VALLEY, which must have no FAULT. */
    static DewWages told(String text) {
        DewWages x = new DewWages();
        if (valley(x, text) < 1) {
            is("valley() of " + text + " at " + x.fault(1), x.fault(0), 0);
        }
        return x;
    }

    static int see(DewWages x, int... numbers) {
        tape(x, bytes(numbers));
        return x.see();
    }

    static boolean on(DewWages x, int... numbers) {
        tape(x, bytes(numbers));
        return x.on();
    }

    /** These bytes with the check byte of AN IMAGE behind them. */
    static int[] checked(int... numbers) {
        int[] row = new int[numbers.length + 1];
        int c = 223;
        for (int i = 0; i < numbers.length; i++) {
            row[i] = numbers[i];
            c = (5 * c + numbers[i]) % 251;
        }
        row[numbers.length] = c;
        return row;
    }

    /** A number of most of what is told without an ACT: objects that answer alike have the same one. Some 30 calls a PERSON, 4 a CELL. */
    static long answers(DewWages x) {
        long all = now(x);
        int columns = x.has(0);
        int cells = columns * x.has(1);
        int people = x.has(2);
        for (int p = 0; p < people; p++) {
            for (int hour = 0; hour < 9; hour += 2) {
                all = with(all, x.today(p, hour, 0), x.today(p, hour, 1), x.today(p, hour, 2));
            }
            all = with(all, x.up(p, 0), x.up(p, 1), x.dry(p));
            all = with(all, x.home(p, 0), x.home(p, 1), x.home(p, 2));
            all = with(all, x.way(p, 3, -1), x.way(p, 3, 0), x.way(p, 3, 2), x.purse(p, 1), x.purse(p, 9));
        }
        for (int place = 0; place < cells; place++) {
            int c = place % columns;
            int r = place / columns;
            all = with(all, x.dew(c, r, -1), x.dew(c, r, 3), x.later(c, r, 2));
        }
        all = with(all, x.changed(0), x.changed(1), x.changed(2), x.walkers(0), x.walkers(1));
        return with(all, x.tells(0), x.tells(1), x.tells(2), x.tells(3));
    }

    /** A number of what is told as it is now, kept and seen. */
    static long now(DewWages x) {
        long all = 7;
        int[] has = new int[10];
        for (int what = 0; what < 10; what++) {
            has[what] = x.has(what);
            all = with(all, has[what]);
        }
        for (int p = 0; p < has[2]; p++) {
            for (int what = 0; what < 6; what++) {
                all = with(all, x.person(p, what), x.letter(p, what));
            }
        }
        for (int place = 0; place < has[0] * has[1]; place++) {
            all = with(all, x.cell(place % has[0], place / has[0]));
        }
        for (int k = 0; k < has[6]; k++) {
            all = with(all, x.kept(k, 0), x.kept(k, 1), x.kept(k, 2));
        }
        return all;
    }

    private static long with(long all, int... answers) {
        long sum = all;
        for (int answer : answers) {
            sum = 31 * sum + answer;
        }
        return sum;
    }

    /** A number of the latest image, byte by byte. */
    static long octets(DewWages x) {
        long all = 7;
        for (int k = -1; k < 110; k++) {
            all = with(all, x.octet(k));
        }
        return all;
    }

    static int[] image(DewWages x) {
        int[] row = new int[x.image()];
        for (int i = 0; i < row.length; i++) {
            row[i] = x.octet(i);
        }
        return row;
    }
}
