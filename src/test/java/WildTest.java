import java.util.ArrayList;
import java.util.List;

/** Each call with all kinds of arguments, in all kinds of states: none throws, and what can't be is NONE, false, and no change. */
public final class WildTest {
    private static final int[] WILD = {Integer.MIN_VALUE, Integer.MIN_VALUE + 1, -1000000, -256, -2, -1, 0, 1, 2, 3, 5, 6, 8, 9, 15, 16, 39, 40,
        41, 63, 64, 65, 99, 100, 255, 256, 511, 512, 999, 1000, 1599, 1600, 1601, 65536, 1 << 30, Integer.MAX_VALUE - 1, Integer.MAX_VALUE};
    private static final String[] TEXTS = {"", "field 2 by 2;", "field 2 by 3;dew 1 2 50;person a at 1 2 up 0 sheet 30 owes 7;",
        "field 8 by 8;dew 7 7 99;person a at 7 7 up 8 sheet 99 owes 99;person b at 0 0 up 0 sheet 1 owes 0;person c at 3 3 up 4 sheet 50 owes 9;"
            + "person d at 3 3 up 4 sheet 50 owes 9;person e at 4 3 up 2 sheet 50 owes 9;person f at 3 4 up 1 sheet 50 owes 9;"
            + "falls dew%7+day;sun hour;takes sheet/(have%5)+1;mist 50;"};

    public static void main(String[] args) {
        for (String text : TEXTS) {
            asked(text);
            changed(text);
            tapes(text);
        }
        Checks.finish();
    }

    private static DewWages told(String text) {
        return text.isEmpty() ? new DewWages() : Checks.told(text);
    }

    private static boolean below(int n, int most) {
        return n >= 0 && n < most;
    }

    private static void asked(String text) {
        for (int a : WILD) {
            for (int b : WILD) {
                DewWages x = told(text);
                boolean person = below(a, x.has(2));
                boolean cell = below(a, x.has(0)) && below(b, x.has(1));
                String what = " " + a + " " + b + " in " + text;
                Checks.is("letter" + what, x.letter(a, b) >= 0, person && below(b, 6));
                Checks.is("cell" + what, x.cell(a, b) >= 0, cell);
                Checks.is("person" + what, x.person(a, b) >= 0, person && below(b, 6));
                Checks.is("up" + what, x.up(a, b) >= 0, person && below(b, 2));
                Checks.is("home" + what, x.home(a, b) >= 0, person && below(b, 3));
                Checks.is("purse" + what, x.purse(a, b) >= 0, person && below(b, 41));
                Checks.is("kept" + what, x.kept(a, b), -1);
                for (int c : new int[] {b, 0, -1, -2, 2, 8, 9, 40, 41}) {
                    Checks.is("today" + what + " " + c, x.today(a, b, c) >= 0, person && below(b, 9) && below(c, 3));
                    Checks.is("dew" + what + " " + c, x.dew(a, b, c) >= 0, cell && c >= -1 && c < 9);
                    Checks.is("later" + what + " " + c, x.later(a, b, c) >= 0, cell && below(c, 41));
                }
                boolean way = person && b >= 1 && b <= 5 && x.person(a, 2) + b <= 9;
                for (int k : new int[] {-2, -1, 0, 4, 5, a}) {
                    Checks.is("way" + what + " " + k, x.way(a, b, k) >= 0, way && k >= -1 && k < b);
                }
                Checks.is("nothing is refused by asking", x.status(0) + x.status(1) + x.status(2) + x.status(3) + x.status(4) + x.status(5), 0);
            }
            DewWages x = told(text);
            Checks.is("fault " + a, x.fault(a), a == 0 ? 0 : -1);
            Checks.is("has " + a, x.has(a) >= 0, below(a, 10));
            Checks.is("status " + a, x.status(a), below(a, 6) ? 0 : -1);
            Checks.is("changed " + a, x.changed(a) >= 0, below(a, 3) && x.changed(0) >= 0);
            Checks.is("walkers " + a, x.walkers(a) >= 0, below(a, 2));
            Checks.is("tells " + a, x.tells(a) >= 0, below(a, 4) && x.has(0) > 0);
            Checks.is("dry " + a, x.dry(a) >= -1, true);
            Checks.is("octet " + a, x.octet(a), -1);
            int size = x.image();
            Checks.is("octet then " + a, x.octet(a) >= 0, below(a, size));
        }
    }

    private static void changed(String text) {
        for (int a : WILD) {
            for (int b : WILD) {
                DewWages x = told(text);
                boolean person = below(a, x.has(2));
                int up = x.person(a, 2);
                int sheet = x.person(a, 3);
                String what = " " + a + " " + b + " in " + text;
                boolean rise = person && below(b, 9) && b != up;
                boolean weave = person && b >= 1 && b <= 99 && b != sheet;
                Checks.is("rise" + what, x.rise(a, b), rise);
                Checks.is("weave" + what, x.weave(a, b), weave);
                int moved = 0;
                for (int p : new int[] {-1, 0, x.has(2) - 1, x.has(2), b}) {
                    boolean move = below(p, x.has(2)) && below(a, x.has(0)) && below(b, x.has(1)) && (x.person(p, 0) != a || x.person(p, 1) != b);
                    Checks.is("move of " + p + what, x.move(p, a, b), move);
                    moved += move ? 1 : 0;
                }
                int acts = (rise ? 1 : 0) + (weave ? 1 : 0) + moved;
                Checks.is("acts" + what, x.has(8), acts);
                Checks.is("refused" + what, x.status(3), 7 - acts);
            }
            DewWages x = told(text);
            boolean go = a >= 1 && a <= 40;
            Checks.is("days " + a, x.days(a) >= 0, go);
            Checks.is("chance " + a, x.chance(a) >= 0, go);
            Checks.is("the day behind " + a, x.has(3), go ? 2 * a : 0);
            Checks.is("kept behind " + a, x.has(6), go ? Math.min(40, 2 * a) : 0);
            Checks.is("seed " + a, x.seed(a), a >= 0);
            Checks.is("undo", x.undo(), go);
            Checks.is("end " + a, x.end(a), a == 0);
        }
    }

    /** Tapes of all lengths and of many bytes, to all that read one. */
    private static void tapes(String text) {
        List<byte[]> rows = new ArrayList<>();
        for (int n = 0; n <= 1600; n = n < 130 ? n + 1 : n + 49) {
            for (int start : new int[] {0, 1, 97, 200}) {
                byte[] row = new byte[n];
                for (int i = 0; i < n; i++) {
                    row[i] = (byte) (start == 0 ? 0 : start + i * start);
                }
                rows.add(row);
            }
        }
        for (byte[] row : rows) {
            read(text, row, 0);
            read(text, row, 1);
            read(text, row, 2);
        }
    }

    /** The tape goes to see, on or valley: what it can't be is refused, and all stays. */
    private static void read(String text, byte[] row, int call) {
        DewWages x = told(text);
        boolean can = call == 0 && isSeen(x, row);
        long before = Checks.now(x);
        Checks.tape(x, row);
        boolean good = call == 0 ? x.see() > 0 : call == 1 ? x.on() : x.valley() > 0;
        String what = "call " + call + " with " + row.length + " bytes from " + (row.length > 0 ? row[0] : 0);
        Checks.is(what, good, can);
        Checks.is(what + ": refused", x.status(call == 2 ? 1 : 5), can ? 0 : 1);
        Checks.is(what + ": all stays", can || Checks.now(x) == before, true);
        Checks.is(what + ": the tape goes", x.end(1), false);
        if (call == 2) {
            Checks.is(what + ": a fault", x.fault(0), 1);
            Checks.is(what + ": its place is on the tape", x.fault(1) >= 0 && x.fault(1) <= row.length, true);
        }
    }

    private static boolean isSeen(DewWages x, byte[] row) {
        boolean seen = row.length > 0 && row.length <= 64 && row.length % 4 == 0;
        for (int i = 0; seen && i < row.length; i += 4) {
            seen = below(row[i], 9) && below(row[i + 1], x.has(0)) && below(row[i + 2], x.has(1)) && below(row[i + 3], 100);
        }
        return seen;
    }
}
