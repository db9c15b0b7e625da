/** Promises 30 to 33: image, octet, on, status. */
public final class ImageTest {
    private static final String ALONE = "field 2 by 2;dew 0 0 10;person a at 0 0 up 0 sheet 30 owes 7;";
    private static final String TWO = "field 3 by 2;person a at 0 0 up 0 sheet 30 owes 7;person b at 1 0 up 1 sheet 31 owes 8;";

    public static void main(String[] args) {
        image();
        on();
        onRefused();
        onByEachByte();
        onOfAnotherValley();
        onLeavesTheRest();
        status();
        statusByEachCall();
        Checks.finish();
    }

    private static void isImage(DewWages x, int... due) {
        Checks.is("image", x.image(), due.length);
        for (int k = 0; k < due.length; k++) {
            Checks.is("octet " + k, x.octet(k), due[k]);
        }
        Checks.is("octet -1", x.octet(-1), -1);
        Checks.is("octet behind", x.octet(due.length), -1);
        Checks.is("octet far behind", x.octet(Integer.MAX_VALUE), -1);
    }

    private static void image() {
        DewWages x = Checks.told(ALONE);
        Checks.is("no image yet", x.octet(0), -1);
        isImage(x, 0, 0, 10, 0, 0, 0, 0, 0, 0, 30, 0, 0, 245);
        x.days(1);
        Checks.is("the latest image stays", x.octet(2), 10);
        isImage(x, Checks.checked(0, 1, 0, 0, 0, 0, 0, 0, 0, 30, 0, 13));
        x = Checks.told("field 3 by 2;dew 1 0 4;dew 0 1 7;falls 0;sun 0;person a at 2 1 up 8 sheet 99 owes 0;");
        isImage(x, Checks.checked(0, 0, 0, 4, 0, 7, 0, 0, 2, 1, 8, 99, 0, 0));
        x = new DewWages();
        isImage(x, 0, 0, 53);
        for (int i = 0; i < 8; i++) {
            x.days(40);
        }
        isImage(x, Checks.checked(1, 64));
        x = Checks.told("field 2 by 2;falls 99;sun 0;takes 99;person a at 0 0 up 0 sheet 99 owes 1;person b at 1 1 up 3 sheet 50 owes 0;");
        x.days(9);
        Checks.is("a purse of more than a byte", x.person(0, 5) > 255, true);
        x.image();
        Checks.is("its higher byte", x.octet(10), x.person(0, 5) / 256);
        Checks.is("its lower byte", x.octet(11), x.person(0, 5) % 256);
        Checks.is("the second one's up", x.octet(14), 3);
    }

    private static void on() {
        DewWages x = Checks.told(TWO);
        x.days(2);
        x.seed(5);
        Checks.see(x, 0, 0, 0, 0);
        Checks.is("on", Checks.on(x, Checks.checked(3, 231, 0, 1, 2, 3, 4, 99, 2, 1, 8, 99, 3, 231, 1, 1, 4, 1, 0, 6)), true);
        Checks.is("the tape goes", x.end(1), false);
        Checks.is("day", x.has(3), 999);
        for (int i = 0; i < 5; i++) {
            Checks.is("cell " + i, x.cell(i % 3, i / 3), i);
        }
        Checks.is("the last cell", x.cell(2, 1), 99);
        int[] a = {2, 1, 8, 99, 7, 999};
        int[] b = {1, 1, 4, 1, 8, 6};
        for (int what = 0; what < 6; what++) {
            Checks.is("a " + what, x.person(0, what), a[what]);
            Checks.is("b " + what, x.person(1, what), b[what]);
        }
        Checks.is("nothing is kept", x.has(6), 0);
        Checks.is("no act", x.has(8), 0);
        Checks.is("no undo", x.undo(), false);
        Checks.is("the seed stays", x.has(9), 5);
        Checks.is("what was seen stays", x.has(7), 1);
        for (int day : new int[] {255, 256, 511, 512, 767, 768, 998}) {
            int[] row = Checks.checked(day / 256, day % 256, 0, 0, 0, 0, 0, 0, 0, 0, 0, 1, day / 256, day % 256, 0, 0, 0, 1, 0, 0);
            Checks.is("on day " + day, Checks.on(x, row), true);
            Checks.is("it is day " + day, x.has(3), day);
            Checks.is("a purse of " + day, x.person(0, 5), day);
            isImage(x, row);
        }
        // What it has written, it takes.
        x = Checks.told(TWO);
        x.days(7);
        int[] written = Checks.image(x);
        DewWages y = Checks.told(TWO);
        Checks.is("on of another's image", Checks.on(y, written), true);
        Checks.is("days go on alike", y.days(9), x.days(9));
    }

    private static void refused(int... row) {
        DewWages x = Checks.told(TWO);
        x.days(1);
        int[] before = Checks.image(x);
        Checks.is("on of none such", Checks.on(x, row), false);
        Checks.is("on of none such: refused", x.status(5), 1);
        Checks.is("on of none such: the tape goes", x.end(1), false);
        int[] after = Checks.image(x);
        for (int k = 0; k < before.length; k++) {
            Checks.is("on of none such: all stays, " + k, after[k], before[k]);
        }
        Checks.is("on of none such: kept stays", x.has(6), 1);
        Checks.is("on of none such: acts stay", x.has(8), 1);
    }

    /** The image with another number at this place, its check byte good. */
    private static int[] with(int place, int number) {
        int[] row = {3, 231, 0, 1, 2, 3, 4, 99, 2, 1, 8, 99, 3, 231, 1, 1, 4, 1, 0, 6};
        row[place] = number;
        return Checks.checked(row);
    }

    private static void onRefused() {
        Checks.is("the row is good", Checks.on(Checks.told(TWO), with(0, 3)), true);
        refused();
        refused(0, 0, 53);
        int[] good = with(0, 3);
        refused(java.util.Arrays.copyOf(good, good.length - 1));
        refused(java.util.Arrays.copyOf(good, good.length + 1));
        int[] bad = good.clone();
        bad[good.length - 1] = (bad[good.length - 1] + 1) % 251;
        refused(bad);
        bad = good.clone();
        bad[4] = 3;
        refused(bad);
        refused(with(1, 232));
        refused(with(0, 4));
        refused(with(2, 100));
        refused(with(7, 100));
        refused(with(8, 3));
        refused(with(9, 2));
        refused(with(10, 9));
        refused(with(11, 0));
        refused(with(11, 100));
        refused(with(13, 232));
        refused(with(12, 4));
        refused(with(14, 3));
        refused(with(15, 2));
        refused(with(16, 9));
        refused(with(17, 0));
        refused(with(18, 4));
        DewWages x = new DewWages();
        Checks.is("on without cells", Checks.on(x, 0, 0, 53), true);
        Checks.is("on without cells: day", Checks.on(x, Checks.checked(2, 1)) && x.has(3) == 513, true);
    }

    private static void isStatus(DewWages x, int... due) {
        for (int what = 0; what < 6; what++) {
            Checks.is("status " + what, x.status(what), due[what]);
        }
        Checks.is("status -1", x.status(-1), -1);
        Checks.is("status 6", x.status(6), -1);
    }

    private static void status() {
        DewWages x = new DewWages();
        isStatus(x, 0, 0, 0, 0, 0, 0);
        x.end(-1);
        x.valley();
        x.days(0);
        x.chance(0);
        x.rise(0, 0);
        x.move(0, 0, 0);
        x.weave(0, 1);
        x.undo();
        x.seed(-1);
        x.see();
        x.on();
        isStatus(x, 1, 1, 2, 3, 1, 3);
        // What only answers NONE is not refused, and what was refused is told in the next valley too.
        x.today(0, 0, 0);
        x.kept(0, 0);
        x.later(0, 0, 0);
        Checks.valley(x, ALONE);
        isStatus(x, 1, 1, 2, 3, 1, 3);
        x.days(1);
        x.chance(1);
        x.rise(0, 3);
        x.undo();
        x.seed(2);
        Checks.see(x, 0, 0, 0, 0);
        Checks.on(x, Checks.image(x));
        isStatus(x, 1, 1, 2, 3, 1, 3);
    }

    /** Each byte of the image of TWO: at its least and its most it is one, one beyond it is none such. */
    private static void onByEachByte() {
        int[] most = {3, 231, 99, 99, 99, 99, 99, 99, 2, 1, 8, 99, 3, 231, 2, 1, 8, 99, 3, 231};
        for (int place = 0; place < most.length; place++) {
            for (int number : new int[] {0, 1, most[place] - 1, most[place], most[place] + 1, 128, 255}) {
                int[] row = new int[most.length];
                row[11] = 1;
                row[17] = 1;
                if (place == 1 || place == 13 || place == 19) {
                    row[place - 1] = 3;
                }
                row[place] = number;
                boolean least = place == 11 || place == 17;
                boolean can = number <= most[place] && !(least && number == 0);
                DewWages x = Checks.told(TWO);
                Checks.is("byte " + place + " of " + number, Checks.on(x, Checks.checked(row)), can);
                Checks.is("byte " + place + " of " + number + ": refused", x.status(5), can ? 0 : 1);
                if (can) {
                    isImage(x, Checks.checked(row));
                } else {
                    isImage(x, Checks.checked(0, 0, 0, 0, 0, 0, 0, 0, 0, 0, 0, 30, 0, 0, 1, 0, 1, 31, 0, 0));
                }
            }
        }
        int[] day767 = with(0, 2);
        day767[1] = 255;
        Checks.is("day 767", Checks.on(Checks.told(TWO), Checks.checked(java.util.Arrays.copyOf(day767, 20))), true);
        for (int c = 0; c < 256; c++) {
            int[] row = with(0, 3);
            int due = row[20];
            row[20] = c;
            DewWages x = Checks.told(TWO);
            Checks.is("check byte " + c, Checks.on(x, row), c == due);
        }
    }

    private static void onOfAnotherValley() {
        String[] texts = {TWO, ALONE, "field 3 by 2;", "field 2 by 3;person a at 0 2 up 0 sheet 1 owes 1;person b at 1 2 up 0 sheet 1 owes 1;",
            "field 2 by 6;person a at 0 0 up 0 sheet 1 owes 1;"};
        for (int from = 0; from < texts.length; from++) {
            DewWages y = Checks.told(texts[from]);
            int[] row = Checks.image(y);
            for (int to = 0; to < texts.length; to++) {
                DewWages x = Checks.told(texts[to]);
                // As many bytes, each of which can be there: nothing tells whose image it is.
                boolean can = from == to || from == 0 && to >= 3 || from == 3 && to == 4;
                Checks.is("image of " + from + " for " + to, Checks.on(x, row), can);
            }
        }
        DewWages x = new DewWages();
        Checks.is("without a valley", Checks.on(x, Checks.image(Checks.told(ALONE))), false);
        Checks.is("without a valley, its own", Checks.on(x, Checks.image(x)), true);
    }

    /** on changes the state alone: not the seed, SEEN, what was refused, or the latest image; and learns all anew. */
    private static void onLeavesTheRest() {
        DewWages x = Checks.told(TWO + "mist 50;");
        int[] first = Checks.image(x);
        DewWages y = Checks.told(TWO + "mist 50;");
        long due = Checks.answers(y);
        x.chance(5);
        x.rise(0, 7);
        x.weave(1, 5);
        x.move(1, 2, 1);
        x.undo();
        x.image();
        Checks.answers(x);
        Checks.is("on", Checks.on(x, first), true);
        Checks.is("the latest image is not this one", x.octet(1), 5);
        Checks.is("no undo", x.undo(), false);
        Checks.is("the seed has gone on", x.has(9) == 1, false);
        x.seed(1);
        Checks.is("all as at first", Checks.answers(x), due);
        Checks.is("days go by as at first", x.days(3), y.days(3));
        Checks.is("acts are counted anew", x.has(8), 1);
        Checks.is("kept anew", x.has(6), 3);
    }

    /** Each call counts in its own place alone, once each time. */
    private static void statusByEachCall() {
        for (int call = 0; call < 11; call++) {
            DewWages x = Checks.told(TWO);
            for (int i = 0; i < 81 && call == 0; i++) {
                x.feed(0, 0, 0, 0, 0);
            }
            for (int times = 1; times <= 3; times++) {
                boolean refused = refuse(x, call);
                int count = call == 0 ? times + 1 : times;
                int[] place = {0, 0, 1, 2, 2, 3, 3, 3, 4, 5, 5};
                Checks.is("call " + call + " is refused", refused, true);
                for (int what = 0; what < 6; what++) {
                    Checks.is("call " + call + ", status " + what, x.status(what), what == place[call] ? count : 0);
                }
            }
        }
        DewWages x = Checks.told(TWO);
        for (int what : new int[] {-1, 6, 7, Integer.MIN_VALUE, Integer.MAX_VALUE}) {
            Checks.is("status " + what, x.status(what), -1);
        }
    }

    private static boolean refuse(DewWages x, int call) {
        switch (call) {
            case 0: return x.feed(0, 0, 0, 0, 0) == -1;
            case 1: return !x.end(1);
            case 2: return x.valley() == -1;
            case 3: return x.days(0) == -1;
            case 4: return x.chance(41) == -1;
            case 5: return !x.rise(0, 0);
            case 6: return !x.move(0, 0, 0);
            case 7: return !x.weave(0, 30);
            case 8: return !x.undo();
            case 9: return !x.seed(-1);
            default: return x.see() == -1;
        }
    }
}
