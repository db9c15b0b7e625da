import java.nio.charset.StandardCharsets;

/** Counts what is as due and what is not, and brings texts on the tape. */
final class Checks {
    private static int good;
    private static int wrong;

    private Checks() {
    }

    static void is(String what, long got, long want) {
        if (got == want) {
            good++;
        } else {
            wrong++;
            if (wrong <= 50) {
                System.out.println(what + " answered " + got + ", due is " + want);
            }
        }
    }

    static void is(String what, boolean got, boolean want) {
        is(what, got ? 1 : 0, want ? 1 : 0);
    }

    static int wrongs() {
        return wrong;
    }

    static void finish() {
        System.out.println(good + " answers as due, " + wrong + " not");
        if (wrong > 0 || good == 0) {
            System.exit(1);
        }
    }

    static byte[] bytes(String text) {
        return text.getBytes(StandardCharsets.ISO_8859_1);
    }

    static byte[] bytes(int... numbers) {
        byte[] row = new byte[numbers.length];
        for (int i = 0; i < row.length; i++) {
            row[i] = (byte) numbers[i];
        }
        return row;
    }

    /** The number that feed() asks for: four bytes, blanks behind the last one. */
    static int four(byte[] row, int from) {
        int n = 0;
        for (int i = from; i < from + 4; i++) {
            n = n << 8 | (i < row.length ? row[i] & 255 : ' ');
        }
        return n;
    }

    /** The tape holds just these bytes. */
    static void tape(DewWages x, byte[] row) {
        x.end(0);
        for (int i = 0; i < row.length; i += 20) {
            x.feed(four(row, i), four(row, i + 4), four(row, i + 8), four(row, i + 12), four(row, i + 16));
        }
        x.end(row.length);
    }

    static int valley(DewWages x, String text) {
        tape(x, bytes(text));
        return x.valley();
    }

    /** A new object with this VALLEY, which must have no FAULT. */
    static DewWages told(String text) {
        DewWages x = new DewWages();
        if (valley(x, text) < 1) {
            is("valley() of " + text + " at " + x.fault(1), x.fault(0), 0);
        }
        return x;
    }

    static int see(DewWages x, int... numbers) {
        tape(x, bytes(numbers));
        return x.see();
    }

    static boolean on(DewWages x, int... numbers) {
        tape(x, bytes(numbers));
        return x.on();
    }

    /** These bytes with the check byte of AN IMAGE behind them. */
    static int[] checked(int... numbers) {
        int[] row = new int[numbers.length + 1];
        int c = 223;
        for (int i = 0; i < numbers.length; i++) {
            row[i] = numbers[i];
            c = (5 * c + numbers[i]) % 251;
        }
        row[numbers.length] = c;
        return row;
    }

    static int[] image(DewWages x) {
        int[] row = new int[x.image()];
        for (int i = 0; i < row.length; i++) {
            row[i] = x.octet(i);
        }
        return row;
    }
}
