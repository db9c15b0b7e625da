/** Promises 1 to 3: a new object, feed, end. */
public final class TapeTest {
    public static void main(String[] args) {
        newObject();
        feed();
        feedIsFull();
        refusedFeedKeepsTheTape();
        end();
        refusedEndKeepsTheTape();
        bytesCutOffAreGone();
        bytesOfAllKinds();
        tapeGoes();
        Checks.finish();
    }

    private static void newObject() {
        DewWages x = new DewWages();
        Checks.is("NONE", DewWages.NONE, -1);
        for (int what = 0; what < 9; what++) {
            Checks.is("new: has " + what, x.has(what), 0);
        }
        Checks.is("new: has 9, the seed", x.has(9), 1);
        Checks.is("new: no cell", x.cell(0, 0), -1);
        Checks.is("new: no person", x.person(0, 0), -1);
        Checks.is("new: no letter", x.letter(0, 0), -1);
        Checks.is("new: no fault", x.fault(0), 0);
        Checks.is("new: no place", x.fault(1), -1);
        Checks.is("new: nothing written", x.octet(0), -1);
        Checks.is("new: today", x.today(0, 0, 0), -1);
        Checks.is("new: dew", x.dew(0, 0, -1), -1);
        Checks.is("new: up", x.up(0, 0), -1);
        Checks.is("new: home", x.home(0, 0), -1);
        Checks.is("new: way", x.way(0, 1, -1), -1);
        Checks.is("new: changed", x.changed(2), -1);
        Checks.is("new: later", x.later(0, 0, 0), -1);
        Checks.is("new: purse", x.purse(0, 0), -1);
        Checks.is("new: dry", x.dry(0), -1);
        Checks.is("new: the empty set", x.walkers(0), 1);
        Checks.is("new: the empty set's bits", x.walkers(1), 0);
        Checks.is("new: nothing tells", x.tells(3), -1);
        for (int what = 0; what < 6; what++) {
            Checks.is("new: status " + what, x.status(what), 0);
        }
        Checks.is("new: nothing kept", x.kept(0, 0), -1);
        Checks.is("new: nobody to be up", x.rise(0, 1), false);
        Checks.is("new: nobody to move", x.move(0, 0, 0), false);
        Checks.is("new: nobody with a sheet", x.weave(0, 1), false);
        Checks.is("new: these three are refused", x.status(3), 3);
        Checks.is("new: no act", x.undo(), false);
        Checks.is("new: a day goes by", x.days(1), 0);
        Checks.is("new: a day by the seed goes by", x.chance(1), 0);
        Checks.is("new: the seed was 1", x.has(9), 1103527590);
        Checks.is("new: two days", x.has(3), 2);
        Checks.is("new: an image without cells and people", x.image(), 3);
    }

    private static void feed() {
        DewWages x = new DewWages();
        Checks.is("feed", x.feed(0, 0, 0, 0, 0), 20);
        Checks.is("feed behind it", x.feed(-1, 1, 2, 3, 4), 40);
        // The first byte of a number is its highest one: "fiel" "d 2 " "by 2" ";" and blanks.
        x.end(0);
        x.feed(0x6669656c, 0x64203220, 0x62792032, 0x3b202020, 0x20202020);
        Checks.is("feed: highest first", x.valley(), 1);
        // A negative number's bytes are 128 to 255: no blanks, no letters.
        x.feed(0x20202020, 0x20202080, 0, 0, 0);
        Checks.is("feed: 128", x.valley(), -1);
        Checks.is("feed: 128 at", x.fault(1), 7);
        x.feed(0x202020ff, 0x20202080, 0, 0, 0);
        x.valley();
        Checks.is("feed: 255 at", x.fault(1), 3);
        // All five numbers, in their order.
        for (int k = 0; k < 5; k++) {
            x.feed(k == 0 ? 0x20204020 : 0x20202020, k == 1 ? 0x20204020 : 0x20202020, k == 2 ? 0x20204020 : 0x20202020,
                k == 3 ? 0x20204020 : 0x20202020, k == 4 ? 0x20204020 : 0x20202020);
            x.valley();
            Checks.is("feed: number " + k, x.fault(1), 4 * k + 2);
        }
    }

    private static void feedIsFull() {
        DewWages x = new DewWages();
        for (int i = 1; i <= 80; i++) {
            Checks.is("feed " + i, x.feed(0x20202020, 0x20202020, 0x20202020, 0x20202020, 0x20202020), 20 * i);
        }
        Checks.is("feed beyond 1600", x.feed(0, 0, 0, 0, 0), -1);
        Checks.is("feed beyond 1600 is refused", x.status(0), 1);
        Checks.is("all bytes are there still", x.end(1600), true);
        x.end(1581);
        Checks.is("feed beyond 1600 by one", x.feed(0, 0, 0, 0, 0), -1);
        x.end(1580);
        Checks.is("feed up to 1600", x.feed(0x20202020, 0x20202020, 0x20202020, 0x20202020, 0x20202020), 1600);
        Checks.is("a text of 1600 bytes", x.valley(), -1);
        Checks.is("a text of 1600 blanks ends too soon", x.fault(1), 1600);
        Checks.is("two were refused", x.status(0), 2);
    }

    /** A VALLEY and blanks up to 1600 bytes: what is refused changes none of them. */
    private static void refusedFeedKeepsTheTape() {
        DewWages x = new DewWages();
        x.feed(0x6669656c, 0x64203220, 0x62792032, 0x3b202020, 0x20202020);
        for (int i = 1; i < 80; i++) {
            x.feed(0x20202020, 0x20202020, 0x20202020, 0x20202020, 0x20202020);
        }
        for (int i = 1; i <= 3; i++) {
            Checks.is("feed of a full tape", x.feed(-1, -1, -1, -1, -1), -1);
            Checks.is("feed of a full tape: refused", x.status(0), i);
        }
        Checks.is("the bytes of before", x.valley(), 1);
        Checks.is("the tape is empty then", x.feed(0, 0, 0, 0, 0), 20);
    }

    private static void end() {
        DewWages x = new DewWages();
        Checks.is("end 0 of nothing", x.end(0), true);
        Checks.is("end 1 of nothing", x.end(1), false);
        Checks.is("end below 0", x.end(-1), false);
        Checks.is("end far below 0", x.end(Integer.MIN_VALUE), false);
        Checks.is("end far above", x.end(Integer.MAX_VALUE), false);
        Checks.is("end: refused", x.status(0), 4);
        x.feed(0x20202020, 0x20202020, 0x20202020, 0x20202020, 0x20202020);
        Checks.is("end at all bytes", x.end(20), true);
        Checks.is("end one beyond", x.end(21), false);
        Checks.is("end at 7", x.end(7), true);
        Checks.is("end back up", x.end(8), false);
        Checks.is("feed behind an end", x.feed(0x20202020, 0x20202020, 0x20202020, 0x20202020, 0x20202020), 27);
        x.end(9);
        x.valley();
        Checks.is("end: the text's length", x.fault(1), 9);
    }

    private static void refusedEndKeepsTheTape() {
        DewWages x = new DewWages();
        x.feed(0x6669656c, 0x64203220, 0x62792032, 0x3b202020, 0x20202020);
        for (int n : new int[] {-1, 21, Integer.MIN_VALUE, Integer.MAX_VALUE}) {
            Checks.is("end " + n, x.end(n), false);
        }
        Checks.is("end: four refused", x.status(0), 4);
        Checks.is("all bytes are there", x.feed(0x20202020, 0x20202020, 0x20202020, 0x20202020, 0x20202020), 40);
        Checks.is("the bytes of before", x.valley(), 1);
        Checks.is("end is refused no more", x.end(0), true);
        Checks.is("end: four refused still", x.status(0), 4);
    }

    /** What stood behind the first n bytes is no part of a word, a number or a text. */
    private static void bytesCutOffAreGone() {
        cut("field 2 by 2;falls 1;", 13, 1, 0, -1);
        cut("fields", 5, -1, 1, 5);
        cut("field 22", 7, -1, 1, 7);
        cut("field 2 by 23;", 12, -1, 1, 12);
        cut("field 2 by 2;person abcdefg", 26, -1, 1, 26);
        cut("field 2 by 2;person up", 21, -1, 1, 21);
        cut("field 2 by 2;mist 1000", 21, -1, 1, 21);
        cut("field 2 by 2;mist 12345", 22, -1, 4, 18);
        cut("field 2 by 2;takes ((((((((", 26, -1, 1, 26);
        cut("field 2 by 2;falls 1;x", 21, 2, 0, -1);
        DewWages x = new DewWages();
        Checks.tape(x, Checks.bytes("field 2 by 2;xxxxxxx"));
        x.end(13);
        x.feed(0x66616c6c, 0x7320313b, 0x20202020, 0x20202020, 0x20202020);
        Checks.is("bytes come behind the cut", x.valley(), 2);
    }

    private static void cut(String text, int n, int statements, int fault, int place) {
        DewWages x = new DewWages();
        Checks.tape(x, Checks.bytes(text));
        Checks.is(text + " cut at " + n, x.end(n), true);
        Checks.is(text + " cut: statements", x.valley(), statements);
        Checks.is(text + " cut: fault", x.fault(0), fault);
        Checks.is(text + " cut: place", x.fault(1), place);
    }

    /** AN IMAGE's last byte, up to 250, here the highest of a number that is below 0 from 128 on. */
    private static void bytesOfAllKinds() {
        int above = 0;
        for (int dew = 0; dew < 100; dew++) {
            int[] row = Checks.checked(0, 0, 0, 0, 0, 0, 0, dew);
            above += row[8] > 127 ? 1 : 0;
            Checks.is("a last byte of " + row[8], Checks.on(Checks.told("field 3 by 2;"), row), true);
        }
        Checks.is("some of them above 127", above > 0, true);
    }

    /** valley, see and on take the whole tape, refused or not. */
    private static void tapeGoes() {
        DewWages x = new DewWages();
        goes(x, "field 2 by 2;", true);
        goes(x, "field 2 by 2", false);
        Checks.tape(x, Checks.bytes(0, 0, 0, 0));
        Checks.is("see", x.see(), 1);
        Checks.is("see: the tape goes", x.feed(0, 0, 0, 0, 0), 20);
        Checks.is("see of the next twenty bytes", x.see(), 5);
        Checks.tape(x, Checks.bytes(9, 0, 0, 0));
        Checks.is("see refused", x.see(), -1);
        Checks.is("see refused: the tape goes", x.feed(0, 0, 0, 0, 0), 20);
        Checks.is("on refused", x.on(), false);
        Checks.is("on refused: the tape goes", x.feed(0, 0, 0, 0, 0), 20);
        Checks.tape(x, Checks.bytes(Checks.checked(0, 0, 0, 0, 0, 0)));
        Checks.is("on", x.on(), true);
        Checks.is("on: the tape goes", x.feed(0, 0, 0, 0, 0), 20);
    }

    private static void goes(DewWages x, String text, boolean good) {
        Checks.is("valley of " + text, Checks.valley(x, text) > 0, good);
        Checks.is("valley of " + text + ": the tape goes", x.feed(0, 0, 0, 0, 0), 20);
        Checks.is("valley of bytes 0", x.valley(), -1);
        Checks.is("valley of bytes 0: its place", x.fault(1), 0);
        Checks.valley(x, "field 2 by 2;");
    }
}
