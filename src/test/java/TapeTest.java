/** Promises 1 to 3: a new object, feed, end. */
public final class TapeTest {
    public static void main(String[] args) {
        newObject();
        feed();
        feedIsFull();
        end();
        Checks.finish();
    }

    private static void newObject() {
        DewWages x = new DewWages();
        Checks.is("NONE", DewWages.NONE, -1);
        for (int what = 0; what < 9; what++) {
            Checks.is("new: has " + what, x.has(what), 0);
        }
        Checks.is("new: has 9, the seed", x.has(9), 1);
        Checks.is("new: no cell", x.cell(0, 0), -1);
        Checks.is("new: no person", x.person(0, 0), -1);
        Checks.is("new: no letter", x.letter(0, 0), -1);
        Checks.is("new: no fault", x.fault(0), 0);
        Checks.is("new: no place", x.fault(1), -1);
        Checks.is("new: nothing written", x.octet(0), -1);
        Checks.is("new: today", x.today(0, 0, 0), -1);
        Checks.is("new: dew", x.dew(0, 0, -1), -1);
        Checks.is("new: up", x.up(0, 0), -1);
        Checks.is("new: home", x.home(0, 0), -1);
        Checks.is("new: way", x.way(0, 1, -1), -1);
        Checks.is("new: changed", x.changed(2), -1);
        Checks.is("new: later", x.later(0, 0, 0), -1);
        Checks.is("new: purse", x.purse(0, 0), -1);
        Checks.is("new: dry", x.dry(0), -1);
        Checks.is("new: the empty set", x.walkers(0), 1);
        Checks.is("new: the empty set's bits", x.walkers(1), 0);
        Checks.is("new: nothing tells", x.tells(3), -1);
        Checks.is("new: no act", x.undo(), false);
        Checks.is("new: a day goes by", x.days(1), 0);
    }

    private static void feed() {
        DewWages x = new DewWages();
        Checks.is("feed", x.feed(0, 0, 0, 0, 0), 20);
        Checks.is("feed behind it", x.feed(-1, 1, 2, 3, 4), 40);
        // The first byte of a number is its highest one: "fiel" "d 2 " "by 2" ";" and blanks.
        x.end(0);
        x.feed(0x6669656c, 0x64203220, 0x62792032, 0x3b202020, 0x20202020);
        Checks.is("feed: highest first", x.valley(), 1);
        // A negative number's bytes are 128 to 255: no blanks, no letters.
        x.feed(0x20202020, 0x20202080, 0, 0, 0);
        Checks.is("feed: 128", x.valley(), -1);
        Checks.is("feed: 128 at", x.fault(1), 7);
        x.feed(0x202020ff, 0x20202080, 0, 0, 0);
        x.valley();
        Checks.is("feed: 255 at", x.fault(1), 3);
        // All five numbers, in their order.
        for (int k = 0; k < 5; k++) {
            x.feed(k == 0 ? 0x20204020 : 0x20202020, k == 1 ? 0x20204020 : 0x20202020, k == 2 ? 0x20204020 : 0x20202020,
                k == 3 ? 0x20204020 : 0x20202020, k == 4 ? 0x20204020 : 0x20202020);
            x.valley();
            Checks.is("feed: number " + k, x.fault(1), 4 * k + 2);
        }
    }

    private static void feedIsFull() {
        DewWages x = new DewWages();
        for (int i = 1; i <= 80; i++) {
            Checks.is("feed " + i, x.feed(0x20202020, 0x20202020, 0x20202020, 0x20202020, 0x20202020), 20 * i);
        }
        Checks.is("feed beyond 1600", x.feed(0, 0, 0, 0, 0), -1);
        Checks.is("feed beyond 1600 is refused", x.status(0), 1);
        Checks.is("all bytes are there still", x.end(1600), true);
        x.end(1581);
        Checks.is("feed beyond 1600 by one", x.feed(0, 0, 0, 0, 0), -1);
        x.end(1580);
        Checks.is("feed up to 1600", x.feed(0x20202020, 0x20202020, 0x20202020, 0x20202020, 0x20202020), 1600);
        Checks.is("a text of 1600 bytes", x.valley(), -1);
        Checks.is("a text of 1600 blanks ends too soon", x.fault(1), 1600);
        Checks.is("two were refused", x.status(0), 2);
    }

    private static void end() {
        DewWages x = new DewWages();
        Checks.is("end 0 of nothing", x.end(0), true);
        Checks.is("end 1 of nothing", x.end(1), false);
        Checks.is("end below 0", x.end(-1), false);
        Checks.is("end far below 0", x.end(Integer.MIN_VALUE), false);
        Checks.is("end far above", x.end(Integer.MAX_VALUE), false);
        Checks.is("end: refused", x.status(0), 4);
        x.feed(0x20202020, 0x20202020, 0x20202020, 0x20202020, 0x20202020);
        Checks.is("end at all bytes", x.end(20), true);
        Checks.is("end one beyond", x.end(21), false);
        Checks.is("end at 7", x.end(7), true);
        Checks.is("end back up", x.end(8), false);
        Checks.is("feed behind an end", x.feed(0x20202020, 0x20202020, 0x20202020, 0x20202020, 0x20202020), 27);
        x.end(9);
        x.valley();
        Checks.is("end: the text's length", x.fault(1), 9);
    }
}
