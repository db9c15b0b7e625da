/** Promises 19 to 21: see, walkers, tells. */
public final class SeenTest {
    private static final String TWO = "field 2 by 2;sun 0;person a at 0 0 up 0 sheet 50 owes 0;person b at 1 1 up 0 sheet 50 owes 0;";

    public static void main(String[] args) {
        see();
        seeRefused();
        walkers();
        tells();
        sixPeople();
        isLearntAnew();
        seenIsRefusedByEachByte();
        eachRowCounts();
        whoGetsUpAtAll();
        tellsOfAllDew();
        tellsInItsOrder();
        Checks.finish();
    }

    private static void see() {
        DewWages x = Checks.told(TWO);
        Checks.is("see", Checks.see(x, 0, 0, 0, 0), 1);
        Checks.is("the tape goes", x.end(1), false);
        Checks.is("rows", x.has(7), 1);
        Checks.is("see others", Checks.see(x, 8, 1, 1, 99, 0, 0, 0, 0), 2);
        Checks.is("rows of the latest", x.has(7), 2);
        int[] most = new int[64];
        Checks.is("16 rows", Checks.see(x, most), 16);
        Checks.is("16 rows are seen", x.has(7), 16);
        Checks.valley(x, TWO);
        Checks.is("a new valley", x.has(7), 0);
    }

    private static void refused(DewWages x, int... numbers) {
        int before = x.status(5);
        Checks.is("see of none such", Checks.see(x, numbers), -1);
        Checks.is("see of none such: refused", x.status(5), before + 1);
        Checks.is("see of none such: the tape goes", x.end(1), false);
        Checks.is("see of none such: the rows of before", x.has(7), 1);
    }

    private static void seeRefused() {
        DewWages x = Checks.told("field 3 by 2;");
        Checks.see(x, 8, 2, 1, 99);
        refused(x);
        refused(x, 0, 0, 0);
        refused(x, 0, 0, 0, 0, 0);
        refused(x, 9, 0, 0, 0);
        refused(x, 0, 3, 0, 0);
        refused(x, 0, 0, 2, 0);
        refused(x, 0, 0, 0, 100);
        refused(x, 255, 0, 0, 0);
        refused(x, 0, 255, 0, 0);
        refused(x, 0, 0, 255, 0);
        refused(x, 0, 0, 0, 255);
        refused(x, 0, 0, 0, 0, 0, 0, 0, 100);
        refused(x, new int[68]);
        Checks.is("without cells", Checks.see(new DewWages(), 0, 0, 0, 0), -1);
    }

    private static void sets(DewWages x, int many, int least, int... seen) {
        Checks.see(x, seen);
        Checks.is("sets", x.walkers(0), many);
        Checks.is("the least one", x.walkers(1), least);
    }

    private static void walkers() {
        DewWages x = Checks.told(TWO);
        Checks.is("all sets", x.walkers(0), 4);
        Checks.is("nobody is the least", x.walkers(1), 0);
        Checks.is("no what", x.walkers(2), -1);
        Checks.is("no what below", x.walkers(-1), -1);
        sets(x, 2, 1, 0, 0, 0, 0);
        sets(x, 1, 1, 0, 0, 0, 0, 0, 1, 1, 5);
        sets(x, 2, 2, 0, 1, 1, 0);
        sets(x, 1, 3, 0, 1, 1, 0, 0, 0, 0, 0);
        sets(x, 1, 0, 8, 1, 1, 5);
        sets(x, 0, -1, 0, 0, 0, 7);
        sets(x, 0, -1, 0, 0, 0, 0, 0, 0, 0, 5);
        sets(x, 4, 0, 0, 1, 0, 5);
        sets(x, 2, 1, 1, 1, 0, 0);
        Checks.see(x, 0, 0, 0);
        Checks.is("by what was seen and not refused", x.walkers(1), 1);
        // Who is up later is not to be told from who is not up, till then.
        x = Checks.told(TWO.replace("at 1 1 up 0", "at 1 1 up 3"));
        sets(x, 2, 0, 2, 0, 0, 5);
        sets(x, 1, 2, 3, 1, 1, 0, 2, 0, 0, 5);
    }

    private static void telling(DewWages x, int hour, int column, int row, int left) {
        Checks.is("tells: hour", x.tells(0), hour);
        Checks.is("tells: column", x.tells(1), column);
        Checks.is("tells: row", x.tells(2), row);
        Checks.is("tells: left", x.tells(3), left);
    }

    private static void tells() {
        DewWages x = Checks.told(TWO);
        telling(x, 0, 0, 0, 2);
        Checks.is("no what", x.tells(4), -1);
        Checks.is("no what below", x.tells(-1), -1);
        Checks.see(x, 0, 0, 0, 0);
        telling(x, 0, 1, 1, 1);
        Checks.see(x, 0, 0, 0, 0, 0, 1, 1, 0);
        telling(x, 0, 0, 0, 1);
        Checks.see(x, 0, 0, 0, 1);
        for (int what = 0; what < 4; what++) {
            Checks.is("tells: no set", x.tells(what), -1);
        }
        x = Checks.told("field 2 by 2;sun 0;person a at 0 1 up 2 sheet 50 owes 0;person b at 0 1 up 5 sheet 50 owes 0;");
        telling(x, 2, 0, 1, 2);
        // Row by row: of two cells that tell as much, 1 0 is ahead of 0 1.
        x = Checks.told("field 2 by 2;dew 0 1 9;dew 1 0 9;falls 0;sun 0;person a at 0 1 up 0 sheet 9 owes 0;person b at 1 0 up 0 sheet 9 owes 0;");
        telling(x, 0, 1, 0, 2);
        x = Checks.told("field 2 by 2;");
        Checks.is("without people", x.walkers(0), 1);
        telling(x, 0, 0, 0, 1);
    }

    private static void sixPeople() {
        StringBuilder b = new StringBuilder("field 8 by 8;falls 0;sun 0;");
        for (int i = 0; i < 6; i++) {
            b.append("dew ").append(i).append(" ").append(i).append(" 9;person ").append((char) ('a' + i)).append(" at ").append(i)
                .append(" ").append(i).append(" up 0 sheet 9 owes 0;");
        }
        DewWages x = Checks.told(b.toString());
        Checks.is("six: sets", x.walkers(0), 64);
        telling(x, 0, 0, 0, 32);
        sets(x, 16, 33, 0, 0, 0, 0, 8, 5, 5, 0);
        sets(x, 1, 63, 0, 0, 0, 0, 0, 1, 1, 0, 0, 2, 2, 0, 0, 3, 3, 0, 0, 4, 4, 0, 0, 5, 5, 0);
    }

    private static void isLearntAnew() {
        DewWages x = Checks.told(TWO);
        sets(x, 2, 1, 0, 0, 0, 0);
        x.rise(0, 1);
        Checks.is("sets when he is up later", x.walkers(0), 0);
        x.undo();
        Checks.is("sets as ahead of it", x.walkers(0), 2);
        x.days(1);
        Checks.is("rows are seen behind a day", x.has(7), 1);
        Checks.is("sets behind a day", x.walkers(0), 2);
        x.move(0, 1, 1);
        Checks.is("sets with another gate", x.walkers(1), -1);
        x.undo();
        x.weave(0, 3);
        Checks.is("sets with another sheet", x.walkers(1), -1);
        Checks.on(x, Checks.checked(0, 0, 0, 0, 0, 0, 0, 0, 0, 9, 0, 0, 0, 0, 0, 9, 0, 0));
        Checks.is("rows are seen behind an image", x.has(7), 1);
        Checks.is("sets behind an image", x.walkers(0), 3);
    }

    /** Each byte of each row, one too much: HOUR 9, a column, a row beyond the last one, a dew of 100. */
    private static void seenIsRefusedByEachByte() {
        int[] most = {8, 2, 1, 99};
        for (int row = 0; row < 16; row += 5) {
            for (int k = 0; k < 4; k++) {
                DewWages x = Checks.told("field 3 by 2;");
                int[] seen = new int[64];
                seen[4 * row + k] = most[k];
                Checks.is("row " + row + ", byte " + k + " at its most", Checks.see(x, seen), 16);
                long before = Checks.answers(x);
                seen[4 * row + k]++;
                refusedOnce(x, 1, seen);
                seen[4 * row + k] = 255;
                refusedOnce(x, 2, seen);
                Checks.is("all stays", Checks.answers(x), before);
            }
        }
        for (int bytes = 0; bytes <= 72; bytes++) {
            DewWages x = Checks.told("field 3 by 2;");
            boolean can = bytes > 0 && bytes <= 64 && bytes % 4 == 0;
            Checks.is("see of " + bytes + " bytes", Checks.see(x, new int[bytes]), can ? bytes / 4 : -1);
            Checks.is("see of " + bytes + " bytes: seen", x.has(7), can ? bytes / 4 : 0);
            Checks.is("see of " + bytes + " bytes: refused", x.status(5), can ? 0 : 1);
        }
    }

    private static void refusedOnce(DewWages x, int count, int[] seen) {
        Checks.is("one too much", Checks.see(x, seen), -1);
        Checks.is("one too much: refused", x.status(5), count);
    }

    /** Sixteen rows: the first, the last and one between can each rule out all sets. */
    private static void eachRowCounts() {
        for (int wrong = -1; wrong < 16; wrong++) {
            DewWages x = Checks.told(TWO);
            int[] seen = new int[64];
            for (int i = 0; i < 16; i++) {
                seen[4 * i] = i % 9;
                seen[4 * i + 1] = 1;
                seen[4 * i + 3] = i % 9 == 0 ? 5 : 0;
                // In hour 0 each is at his gate; in hour 1 a goes to 1 0, b does not.
                if (i == wrong) {
                    seen[4 * i + 3] = 77;
                }
            }
            Checks.is("sixteen rows, wrong " + wrong, Checks.see(x, seen), 16);
            Checks.is("sets, wrong " + wrong, x.walkers(0), wrong < 0 ? 2 : 0);
            Checks.is("the least, wrong " + wrong, x.walkers(1), wrong < 0 ? 1 : -1);
        }
    }

    /** A set's people get up at their HOURS; the others take nothing in the whole DAY. */
    private static void whoGetsUpAtAll() {
        String text = "field 3 by 2;sun 0;falls 0;takes 9;dew 0 0 90;dew 2 1 60;"
            + "person a at 0 0 up 8 sheet 50 owes 0;person b at 2 1 up 0 sheet 50 owes 0;person c at 2 1 up 0 sheet 5 owes 0;";
        DewWages x = Checks.told(text);
        Checks.is("eight sets", x.walkers(0), 8);
        sets(x, 4, 0, 8, 0, 0, 90);
        sets(x, 4, 1, 8, 0, 0, 81);
        sets(x, 8, 0, 7, 0, 0, 90);
        sets(x, 2, 0, 0, 2, 1, 60);
        sets(x, 2, 2, 0, 2, 1, 51);
        sets(x, 2, 4, 0, 2, 1, 55);
        sets(x, 2, 6, 0, 2, 1, 46);
        sets(x, 1, 7, 8, 2, 1, 5, 8, 0, 0, 81);
        sets(x, 1, 0, 8, 2, 1, 60, 8, 0, 0, 90);
        // By TODAY as it is then: with another HOUR for a, another sheet for c.
        sets(x, 1, 5, 8, 0, 0, 81, 8, 2, 1, 55);
        x.rise(0, 7);
        Checks.is("a up at 7: no set", x.walkers(0), 0);
        x.undo();
        x.weave(2, 6);
        Checks.is("c with 6: no set", x.walkers(0), 0);
        x.undo();
        Checks.is("as seen again", x.walkers(1), 5);
        Checks.valley(x, text);
        Checks.is("another valley: all", x.walkers(0), 8);
    }

    /** 0, 98 and 99 are told of like all others. */
    private static void tellsOfAllDew() {
        for (int dew : new int[] {0, 1, 97, 98, 99}) {
            DewWages x = Checks.told("field 2 by 2;falls " + dew + ";sun 0;");
            telling(x, 0, 0, 0, 1);
        }
        String text = "field 2 by 2;dew 0 0 99;dew 1 1 99;falls 0;sun 0;";
        telling(Checks.told(text + "takes 1;person a at 0 0 up 3 sheet 50 owes 0;"), 3, 0, 0, 1);
        telling(Checks.told(text + "takes 1;person a at 0 0 up 3 sheet 50 owes 0;person b at 0 0 up 3 sheet 50 owes 0;"), 3, 0, 0, 2);
        // By a, by b, by both and by none 98, 97, 96 and 99 are left, whether c takes his 99 or not.
        DewWages x = Checks.told(text + "takes sheet;person a at 0 0 up 8 sheet 1 owes 0;person b at 0 0 up 8 sheet 2 owes 0;"
            + "person c at 1 1 up 8 sheet 99 owes 0;");
        telling(x, 8, 0, 0, 2);
        Checks.see(x, 8, 1, 1, 99);
        telling(x, 8, 0, 0, 1);
        Checks.see(x, 8, 0, 0, 98);
        telling(x, 8, 1, 1, 1);
        Checks.see(x, 8, 0, 0, 98, 8, 1, 1, 0);
        telling(x, 0, 0, 0, 1);
    }

    /** HOUR by HOUR, then row by row: where and when it is told first. */
    private static void tellsInItsOrder() {
        for (int hour = 0; hour < 9; hour++) {
            for (int place = 0; place < 6; place++) {
                DewWages x = Checks.told("field 3 by 2;falls 0;sun 0;takes if(hour<" + hour + ",0,9);dew " + place % 3 + " " + place / 3
                    + " 90;person a at " + place % 3 + " " + place / 3 + " up 0 sheet 50 owes 0;");
                telling(x, hour, place % 3, place / 3, 1);
            }
        }
        // In hour 2 by the last CELL, in hour 3 by the first one too.
        DewWages x = Checks.told("field 3 by 2;falls 0;sun 0;dew 0 0 9;dew 2 1 9;person a at 2 1 up 2 sheet 5 owes 0;person b at 0 0 up 3 sheet 5 owes 0;");
        telling(x, 2, 2, 1, 2);
        // Two in one HOUR tell as much; one of them that tells more, in a later HOUR, is better.
        x = Checks.told("field 3 by 2;falls 0;sun 0;dew 1 0 9;dew 2 1 9;person a at 2 1 up 2 sheet 5 owes 0;person b at 1 0 up 2 sheet 5 owes 0;");
        telling(x, 2, 1, 0, 2);
        x = Checks.told("field 3 by 2;falls 0;sun 0;takes sheet;dew 1 0 9;dew 2 1 9;person a at 2 1 up 2 sheet 5 owes 0;person b at 2 1 up 3 sheet 2 owes 0;");
        telling(x, 3, 2, 1, 1);
    }
}
