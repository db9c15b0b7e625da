/** Promises 16 to 18: later, purse, dry. */
public final class AheadTest {
    private static final String ALONE = "field 2 by 2;dew 0 0 10;person a at 0 0 up 0 sheet 30 owes 7;";

    public static void main(String[] args) {
        later();
        eachDayAhead();
        purse();
        dry();
        lastDays();
        dryOnDay999();
        isLearntAnew();
        dryFirst();
        asTheDaysGo();
        whichDaysCanBe();
        Checks.finish();
    }

    private static void later() {
        DewWages x = Checks.told("field 3 by 2;dew 2 0 7;falls 5+day;sun 0;mist 100;");
        Checks.is("later 0", x.later(2, 0, 0), 7);
        Checks.is("later 1", x.later(2, 0, 1), 12);
        Checks.is("later 2, its day", x.later(2, 0, 2), 18);
        Checks.is("later 3 elsewhere", x.later(1, 1, 3), 18);
        Checks.is("later 40", x.later(1, 1, 40), 99);
        Checks.is("later -1", x.later(1, 1, -1), -1);
        Checks.is("later 41", x.later(1, 1, 41), -1);
        Checks.is("no column", x.later(3, 0, 0), -1);
        Checks.is("no row", x.later(0, 2, 0), -1);
        Checks.is("no column below", x.later(-1, 0, 0), -1);
        Checks.is("later changes no day", x.has(3), 0);
        Checks.is("later changes no dew", x.has(4), 7);
        Checks.is("later keeps nothing", x.has(6), 0);
        Checks.is("later draws nothing", x.has(9), 1);
    }

    /** The dew and a purse change on each DAY: none is told for another one. */
    private static void eachDayAhead() {
        DewWages x = Checks.told("field 2 by 2;falls if(row=0,0,1);sun 0;takes 1;person a at 0 0 up 0 sheet 1 owes 0;");
        for (int n = 0; n <= 40; n++) {
            Checks.is("later " + n, x.later(1, 1, n), n);
            Checks.is("purse " + n, x.purse(0, n), n);
        }
    }

    private static void purse() {
        DewWages x = Checks.told(ALONE);
        Checks.is("purse 0", x.purse(0, 0), 0);
        Checks.is("purse 1", x.purse(0, 1), 13);
        Checks.is("purse 2", x.purse(0, 2), 20);
        Checks.is("purse 40", x.purse(0, 40), 13 + 39 * 7);
        Checks.is("purse -1", x.purse(0, -1), -1);
        Checks.is("purse 41", x.purse(0, 41), -1);
        Checks.is("nobody", x.purse(1, 0), -1);
        Checks.is("nobody below", x.purse(-1, 0), -1);
        // 99 a day, less 1: 999 at most.
        x = Checks.told("field 2 by 2;falls 99;sun 0;takes 99;person a at 0 0 up 0 sheet 99 owes 1;");
        Checks.is("purse 10", x.purse(0, 10), 980);
        Checks.is("purse 11", x.purse(0, 11), 999);
        Checks.is("purse 12", x.purse(0, 12), 999);
        // At nine he is at his gate again and has nothing: his sheet is empty.
        x = Checks.told("field 8 by 2;dew 1 0 9;dew 2 0 8;falls 0;sun 0;takes 9;person a at 0 0 up 0 sheet 9 owes 0;");
        Checks.is("purse of a day", x.purse(0, 1), 9);
        Checks.is("the next day begins at his gate", x.purse(0, 2), 9);
        Checks.is("and so does the last", x.later(2, 0, 40), 8);
    }

    private static void dry() {
        Checks.is("not dry", Checks.told(ALONE).dry(0), -1);
        DewWages x = Checks.told(ALONE.replace("owes 7", "owes 21"));
        Checks.is("dry today", x.dry(0), 0);
        Checks.is("an empty purse", x.purse(0, 1), 0);
        // 20 less 17, then 3 and 14 less 17: both together are not less; then 14 are.
        x = Checks.told(ALONE.replace("owes 7", "owes 17"));
        Checks.is("as much as he owes", x.purse(0, 2), 0);
        Checks.is("dry on the third day", x.dry(0), 2);
        Checks.is("nobody", x.dry(1), -1);
        Checks.is("nobody below", x.dry(-1), -1);
        // Dry, what he has is gone, and never on his purse.
        x = Checks.told("field 2 by 2;falls if(day<40,30,0);sun 0;person a at 0 0 up 0 sheet 30 owes 30;person b at 0 0 up 0 sheet 1 owes 2;");
        Checks.is("not dry for forty days", x.dry(0), -1);
        Checks.is("the other one is", x.dry(1), 0);
        Checks.is("dry, with an empty purse", x.purse(1, 1), 0);
    }

    private static void lastDays() {
        DewWages x = Checks.told("field 2 by 2;falls if(day<998,1,0);sun 1;person a at 0 0 up 0 sheet 30 owes 1;");
        // DAY 960: 3 * 256 + 192.
        Checks.is("day 960", Checks.on(x, Checks.checked(3, 192, 0, 0, 0, 0, 0, 0, 0, 30, 0, 0)), true);
        Checks.is("later 39", x.later(0, 0, 39), 0);
        Checks.is("later 40", x.later(0, 0, 40), -1);
        Checks.is("purse 39", x.purse(0, 39), 0);
        Checks.is("purse 40", x.purse(0, 40), -1);
        Checks.is("dry on day 998", x.dry(0), 38);
        Checks.on(x, Checks.checked(3, 231, 0, 0, 0, 0, 0, 0, 0, 30, 0, 0));
        Checks.is("day 999", x.has(3), 999);
        Checks.is("later 0", x.later(0, 0, 0), 0);
        Checks.is("later 1", x.later(0, 0, 1), -1);
        Checks.is("purse 0", x.purse(0, 0), 0);
        Checks.is("purse 1", x.purse(0, 1), -1);
        Checks.is("dry on day 999", x.dry(0), 0);
    }

    /** DAY 999 is not beyond DAY 999: dry() looks at it too, at forty DAYS in all. */
    private static void dryOnDay999() {
        DewWages x = Checks.told("field 2 by 2;falls if(day<999,1,0);person a at 0 0 up 0 sheet 30 owes 1;person b at 1 1 up 0 sheet 30 owes 0;");
        int[] days = {959, 960, 961, 997, 998, 999};
        int[] due = {-1, 39, 38, 2, 1, 0};
        for (int i = 0; i < days.length; i++) {
            begin(x, days[i], 0);
            Checks.is("dry from day " + days[i], x.dry(0), due[i]);
            Checks.is("never dry from day " + days[i], x.dry(1), -1);
        }
        begin(x, 999, 1);
        Checks.is("the purse pays on day 999", x.dry(0), -1);
        begin(x, 998, 1);
        Checks.is("the purse pays behind day 998", x.dry(0), -1);
        begin(x, 999, 0);
        Checks.is("nobody on day 999", x.dry(2), -1);
        Checks.is("day 999 does not go by", x.days(1), -1);
        Checks.is("dry still", x.dry(0), 0);
        Checks.is("it is day 999", x.has(3), 999);
        Checks.is("dry keeps nothing", x.has(6), 0);
    }

    /** A DAY without dew; a purse for a, none for b. */
    private static void begin(DewWages x, int day, int purse) {
        Checks.is("day " + day, Checks.on(x, Checks.checked(day >> 8, day & 255, 0, 0, 0, 0,
            0, 0, 0, 30, 0, purse, 1, 1, 0, 30, 0, 0)), true);
    }

    private static void isLearntAnew() {
        DewWages x = Checks.told(ALONE);
        Checks.is("purse at first", x.purse(0, 1), 13);
        x.days(1);
        Checks.is("purse behind a day", x.purse(0, 1), 20);
        x.weave(0, 8);
        Checks.is("purse with another sheet", x.purse(0, 1), 14);
        x.rise(0, 8);
        Checks.is("purse when he is up late", x.purse(0, 1), 6);
        Checks.is("later when he is up late", x.later(0, 0, 1), 0);
        x.undo();
        x.undo();
        x.undo();
        Checks.is("purse as at first", x.purse(0, 1), 13);
        x.chance(1);
        Checks.is("purse behind another day", x.purse(0, 1), 20);
        Checks.valley(x, ALONE.replace("owes 7", "owes 20"));
        Checks.is("purse in another valley", x.purse(0, 1), 0);
        Checks.is("dry in another valley", x.dry(0), 1);
    }

    /** The first of the DAYS 0 to 39 ahead in which he is DRY, of each PERSON his own. */
    private static void dryFirst() {
        for (int last = 0; last <= 41; last++) {
            DewWages x = Checks.told("field 2 by 2;falls if(day=" + last + ",0,9);sun 99;person a at 0 0 up 0 sheet 9 owes 9;"
                + "person b at 1 1 up 0 sheet 9 owes 0;");
            Checks.is("dry on day " + last + " alone", x.dry(0), last < 40 ? last : -1);
            Checks.is("never dry", x.dry(1), -1);
            x.days(1);
            Checks.is("dry on day " + last + ", a day later", x.dry(0), last == 0 || last > 40 ? -1 : last - 1);
        }
        // Dry in each of two DAYS: the first one is told. One short of what he owes is DRY, just that is not.
        DewWages x = Checks.told("field 2 by 2;falls if(day=3 or day=7,8,9);sun 99;person a at 0 0 up 0 sheet 9 owes 9;"
            + "person b at 1 1 up 0 sheet 9 owes 8;person c at 1 0 up 0 sheet 9 owes 10;");
        Checks.is("one short on days 3 and 7", x.dry(0), 3);
        Checks.is("one more than he owes", x.purse(1, 1), 1);
        Checks.is("not dry by what is in the purse", x.dry(1), -1);
        Checks.is("one short today", x.dry(2), 0);
    }

    /** What is told of DAYS AHEAD comes so: day by day, of CELLS, purses and who is DRY. */
    private static void asTheDaysGo() {
        String text = "field 3 by 2;dew 2 1 40;falls day%7+column;sun hour%3;takes 4+row;mist 100;"
            + "person a at 0 0 up 0 sheet 20 owes 15;person b at 2 1 up 3 sheet 50 owes 16;person c at 1 1 up 8 sheet 9 owes 1;";
        DewWages ahead = Checks.told(text);
        DewWages goes = Checks.told(text);
        int[] dry = {-1, -1, -1};
        for (int n = 0; n <= 40; n++) {
            Checks.is("later " + n, ahead.later(n % 3, n % 2, n), goes.cell(n % 3, n % 2));
            Checks.is("purse of c " + n, ahead.purse(2, n), goes.person(2, 5));
            Checks.is("purse of b " + n, ahead.purse(1, n), goes.person(1, 5));
            int had = goes.person(0, 5);
            int has = goes.today(0, 8, 2);
            if (dry[0] < 0 && had + has < 15) {
                dry[0] = n;
            }
            goes.days(1);
        }
        Checks.is("a is dry on one of them", dry[0] >= 0 && dry[0] < 40, true);
        Checks.is("a is dry first", ahead.dry(0), dry[0]);
        Checks.is("no day has gone by", ahead.has(3) + ahead.has(6) + ahead.has(8), 0);
    }

    private static void whichDaysCanBe() {
        DewWages x = Checks.told("field 2 by 2;person a at 0 0 up 0 sheet 30 owes 1;");
        for (int day : new int[] {0, 1, 958, 959, 960, 961, 998, 999}) {
            Checks.on(x, Checks.checked(day >> 8, day & 255, 0, 0, 0, 0, 0, 0, 0, 30, 0, 0));
            int most = Math.min(40, 999 - day);
            for (int n : new int[] {-1, 0, most, most + 1, 40, 41, Integer.MIN_VALUE, Integer.MAX_VALUE}) {
                boolean can = n >= 0 && n <= most;
                Checks.is("later " + n + " from day " + day, x.later(1, 1, n) >= 0, can);
                Checks.is("purse " + n + " from day " + day, x.purse(0, n) >= 0, can);
            }
        }
    }
}
