/** Promises 19 to 21: see, walkers, tells. */
public final class SeenTest {
    private static final String TWO = "field 2 by 2;sun 0;person a at 0 0 up 0 sheet 50 owes 0;person b at 1 1 up 0 sheet 50 owes 0;";

    public static void main(String[] args) {
        see();
        seeRefused();
        walkers();
        tells();
        sixPeople();
        isLearntAnew();
        Checks.finish();
    }

    private static void see() {
        DewWages x = Checks.told(TWO);
        Checks.is("see", Checks.see(x, 0, 0, 0, 0), 1);
        Checks.is("the tape goes", x.end(1), false);
        Checks.is("rows", x.has(7), 1);
        Checks.is("see others", Checks.see(x, 8, 1, 1, 99, 0, 0, 0, 0), 2);
        Checks.is("rows of the latest", x.has(7), 2);
        int[] most = new int[64];
        Checks.is("16 rows", Checks.see(x, most), 16);
        Checks.is("16 rows are seen", x.has(7), 16);
        Checks.valley(x, TWO);
        Checks.is("a new valley", x.has(7), 0);
    }

    private static void refused(DewWages x, int... numbers) {
        int before = x.status(5);
        Checks.is("see of none such", Checks.see(x, numbers), -1);
        Checks.is("see of none such: refused", x.status(5), before + 1);
        Checks.is("see of none such: the tape goes", x.end(1), false);
        Checks.is("see of none such: the rows of before", x.has(7), 1);
    }

    private static void seeRefused() {
        DewWages x = Checks.told("field 3 by 2;");
        Checks.see(x, 8, 2, 1, 99);
        refused(x);
        refused(x, 0, 0, 0);
        refused(x, 0, 0, 0, 0, 0);
        refused(x, 9, 0, 0, 0);
        refused(x, 0, 3, 0, 0);
        refused(x, 0, 0, 2, 0);
        refused(x, 0, 0, 0, 100);
        refused(x, 255, 0, 0, 0);
        refused(x, 0, 255, 0, 0);
        refused(x, 0, 0, 255, 0);
        refused(x, 0, 0, 0, 255);
        refused(x, 0, 0, 0, 0, 0, 0, 0, 100);
        refused(x, new int[68]);
        Checks.is("without cells", Checks.see(new DewWages(), 0, 0, 0, 0), -1);
    }

    private static void sets(DewWages x, int many, int least, int... seen) {
        Checks.see(x, seen);
        Checks.is("sets", x.walkers(0), many);
        Checks.is("the least one", x.walkers(1), least);
    }

    private static void walkers() {
        DewWages x = Checks.told(TWO);
        Checks.is("all sets", x.walkers(0), 4);
        Checks.is("nobody is the least", x.walkers(1), 0);
        Checks.is("no what", x.walkers(2), -1);
        Checks.is("no what below", x.walkers(-1), -1);
        sets(x, 2, 1, 0, 0, 0, 0);
        sets(x, 1, 1, 0, 0, 0, 0, 0, 1, 1, 5);
        sets(x, 2, 2, 0, 1, 1, 0);
        sets(x, 1, 3, 0, 1, 1, 0, 0, 0, 0, 0);
        sets(x, 1, 0, 8, 1, 1, 5);
        sets(x, 0, -1, 0, 0, 0, 7);
        sets(x, 0, -1, 0, 0, 0, 0, 0, 0, 0, 5);
        sets(x, 4, 0, 0, 1, 0, 5);
        sets(x, 2, 1, 1, 1, 0, 0);
        Checks.see(x, 0, 0, 0);
        Checks.is("by what was seen and not refused", x.walkers(1), 1);
        // Who is up later is not to be told from who is not up, till then.
        x = Checks.told(TWO.replace("at 1 1 up 0", "at 1 1 up 3"));
        sets(x, 2, 0, 2, 0, 0, 5);
        sets(x, 1, 2, 3, 1, 1, 0, 2, 0, 0, 5);
    }

    private static void telling(DewWages x, int hour, int column, int row, int left) {
        Checks.is("tells: hour", x.tells(0), hour);
        Checks.is("tells: column", x.tells(1), column);
        Checks.is("tells: row", x.tells(2), row);
        Checks.is("tells: left", x.tells(3), left);
    }

    private static void tells() {
        DewWages x = Checks.told(TWO);
        telling(x, 0, 0, 0, 2);
        Checks.is("no what", x.tells(4), -1);
        Checks.is("no what below", x.tells(-1), -1);
        Checks.see(x, 0, 0, 0, 0);
        telling(x, 0, 1, 1, 1);
        Checks.see(x, 0, 0, 0, 0, 0, 1, 1, 0);
        telling(x, 0, 0, 0, 1);
        Checks.see(x, 0, 0, 0, 1);
        for (int what = 0; what < 4; what++) {
            Checks.is("tells: no set", x.tells(what), -1);
        }
        x = Checks.told("field 2 by 2;sun 0;person a at 0 1 up 2 sheet 50 owes 0;person b at 0 1 up 5 sheet 50 owes 0;");
        telling(x, 2, 0, 1, 2);
        // Row by row: of two cells that tell as much, 1 0 is ahead of 0 1.
        x = Checks.told("field 2 by 2;dew 0 1 9;dew 1 0 9;falls 0;sun 0;person a at 0 1 up 0 sheet 9 owes 0;person b at 1 0 up 0 sheet 9 owes 0;");
        telling(x, 0, 1, 0, 2);
        x = Checks.told("field 2 by 2;");
        Checks.is("without people", x.walkers(0), 1);
        telling(x, 0, 0, 0, 1);
    }

    private static void sixPeople() {
        StringBuilder b = new StringBuilder("field 8 by 8;falls 0;sun 0;");
        for (int i = 0; i < 6; i++) {
            b.append("dew ").append(i).append(" ").append(i).append(" 9;person ").append((char) ('a' + i)).append(" at ").append(i)
                .append(" ").append(i).append(" up 0 sheet 9 owes 0;");
        }
        DewWages x = Checks.told(b.toString());
        Checks.is("six: sets", x.walkers(0), 64);
        telling(x, 0, 0, 0, 32);
        sets(x, 16, 33, 0, 0, 0, 0, 8, 5, 5, 0);
        sets(x, 1, 63, 0, 0, 0, 0, 0, 1, 1, 0, 0, 2, 2, 0, 0, 3, 3, 0, 0, 4, 4, 0, 0, 5, 5, 0);
    }

    private static void isLearntAnew() {
        DewWages x = Checks.told(TWO);
        sets(x, 2, 1, 0, 0, 0, 0);
        x.rise(0, 1);
        Checks.is("sets when he is up later", x.walkers(0), 0);
        x.undo();
        Checks.is("sets as ahead of it", x.walkers(0), 2);
        x.days(1);
        Checks.is("rows are seen behind a day", x.has(7), 1);
        Checks.is("sets behind a day", x.walkers(0), 2);
        x.move(0, 1, 1);
        Checks.is("sets with another gate", x.walkers(1), -1);
        x.undo();
        x.weave(0, 3);
        Checks.is("sets with another sheet", x.walkers(1), -1);
        Checks.on(x, Checks.checked(0, 0, 0, 0, 0, 0, 0, 0, 0, 9, 0, 0, 0, 0, 0, 9, 0, 0));
        Checks.is("rows are seen behind an image", x.has(7), 1);
        Checks.is("sets behind an image", x.walkers(0), 3);
    }
}
