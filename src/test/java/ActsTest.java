/** Promises 22 to 29: days, chance, rise, move, weave, undo, seed, kept. */
public final class ActsTest {
    private static final String ALONE = "field 2 by 2;dew 0 0 10;person a at 0 0 up 0 sheet 30 owes 7;";
    /** The first draws of 100 from seed 1 on. */
    private static final int[] DRAWS = {18, 99, 26, 80, 16, 14, 68, 52, 41, 19, 76, 87, 54, 3, 76, 73, 21, 39, 7, 6, 67, 1,
        16, 70, 68, 75, 49, 1, 32, 23, 21, 7, 44, 47, 67, 4, 86, 21, 73, 60};

    public static void main(String[] args) {
        days();
        dayNine();
        chance();
        mists();
        rise();
        move();
        weave();
        undo();
        undoKeepsTwenty();
        seed();
        kept();
        refusedActsChangeNothing();
        leastAndMostOfActs();
        lastDays();
        chanceIsDaysWithMists();
        undoOfEachKind();
        undoKeepsAllThatIsKept();
        keptByEachDay();
        atNineAllAreAtTheirGates();
        Checks.finish();
    }

    private static void days() {
        DewWages x = Checks.told(ALONE);
        Checks.is("days 1", x.days(1), 20);
        Checks.is("the day", x.has(3), 1);
        Checks.is("the purse", x.person(0, 5), 13);
        Checks.is("days 3", x.days(3), 42);
        Checks.is("the day then", x.has(3), 4);
        Checks.is("the purse then", x.person(0, 5), 34);
        Checks.is("two acts", x.has(8), 2);
        for (int n : new int[] {0, -1, 41, Integer.MIN_VALUE, Integer.MAX_VALUE}) {
            Checks.is("days " + n, x.days(n), -1);
        }
        Checks.is("days: refused", x.status(2), 5);
        Checks.is("days: no act", x.has(8), 2);
        Checks.is("days: no draw", x.has(9), 1);
        for (int i = 0; i < 24; i++) {
            x.days(40);
        }
        Checks.is("day 964", x.has(3), 964);
        Checks.is("days to 1000", x.days(36), -1);
        Checks.is("days to 999", x.days(35), 35 * 14);
        Checks.is("day 999", x.has(3), 999);
        Checks.is("no day more", x.days(1), -1);
        Checks.is("999 at most", x.person(0, 5), 999);
    }

    private static void dayNine() {
        DewWages x = Checks.told("field 3 by 2;dew 2 0 40;falls 0;sun 0;person a at 0 0 up 0 sheet 30 owes 0;person b at 1 0 up 0 sheet 5 owes 6;person c at 2 1 up 7 sheet 9 owes 9;");
        Checks.is("wrung by all", x.days(1), 14);
        Checks.is("a has nothing near", x.person(0, 5), 0);
        Checks.is("b is dry", x.person(1, 5), 0);
        Checks.is("c has just what he owes", x.person(2, 5), 0);
        Checks.is("one was dry", x.kept(0, 2), 1);
        Checks.is("the rest stays", x.cell(2, 0), 26);
        Checks.is("gates stay", x.person(2, 1), 1);
        Checks.is("b begins at his gate again", x.today(1, 0, 2), 5);
        // A purse that is not empty is, when both together are less.
        x = Checks.told("field 2 by 2;falls if(day%2=0,20,0);sun if(hour=8,99,0);takes 20;person a at 0 0 up 0 sheet 20 owes 14;person b at 1 1 up 8 sheet 20 owes 10;");
        int[] purse = {0, 6, 0, 6, 0, 6};
        int[] other = {0, 10, 0, 10, 0, 10};
        for (int day = 0; day < 6; day++) {
            Checks.is("a's purse on day " + day, x.person(0, 5), purse[day]);
            Checks.is("b's purse on day " + day, x.person(1, 5), other[day]);
            x.days(1);
            Checks.is("who was dry on day " + day, x.kept(day, 2), day % 2);
        }
        // From what he has and from his purse.
        x = Checks.told("field 2 by 2;falls if(day=0,9,2);sun 0;takes 99;person a at 0 0 up 8 sheet 99 owes 5;");
        x.days(1);
        Checks.is("purse 4", x.person(0, 5), 4);
        x.move(0, 1, 1);
        x.days(1);
        Checks.is("11 more", x.person(0, 5), 10);
    }

    private static void chance() {
        for (int mist : new int[] {0, 1, 18, 19, 99, 100}) {
            DewWages x = Checks.told(ALONE + "mist " + mist + ";");
            int due = 0;
            for (int draw : DRAWS) {
                due += draw < mist ? 1 : 0;
            }
            Checks.is("mists of 40 days, mist " + mist, x.chance(40), due);
            Checks.is("one act", x.has(8), 1);
            Checks.is("40 days", x.has(3), 40);
            Checks.is("40 kept", x.has(6), 40);
        }
        DewWages x = Checks.told(ALONE + "mist 19;");
        Checks.is("the first day has a mist", x.chance(1), 1);
        Checks.is("the seed behind a draw", x.has(9), 1103527590);
        Checks.is("the second one has none", x.chance(1), 0);
        Checks.is("the seed behind two draws", x.has(9), 377401575);
        for (int n : new int[] {0, -1, 41, Integer.MIN_VALUE, Integer.MAX_VALUE}) {
            Checks.is("chance " + n, x.chance(n), -1);
        }
        Checks.is("chance: refused", x.status(2), 5);
        Checks.is("chance: no draw", x.has(9), 377401575);
        Checks.is("chance: no act", x.has(8), 2);
        Checks.on(x, Checks.checked(3, 230, 0, 0, 0, 0, 0, 0, 0, 30, 0, 0));
        Checks.is("chance beyond 999", x.chance(2), -1);
        Checks.is("chance to 999", x.chance(1), 0);
        Checks.is("day 999", x.has(3), 999);
        x = Checks.told("field 2 by 2;");
        x.seed(Integer.MAX_VALUE);
        x.chance(1);
        Checks.is("the seed behind the highest one", x.has(9), 1043980748);
        x.seed(0);
        x.chance(1);
        Checks.is("the seed behind 0", x.has(9), 12345);
    }

    private static void mists() {
        DewWages x = Checks.told("field 2 by 2;falls 3+column;sun 0;mist 19;");
        x.chance(1);
        Checks.is("twice as much", x.cell(0, 0), 6);
        Checks.is("twice as much elsewhere", x.cell(1, 1), 8);
        x.chance(1);
        Checks.is("once as much", x.cell(0, 0), 9);
        x = Checks.told("field 2 by 2;dew 0 0 90;falls 5;sun 0;mist 100;");
        x.chance(1);
        Checks.is("99 at most", x.cell(0, 0), 99);
        Checks.is("twice five", x.cell(1, 0), 10);
        x = Checks.told("field 2 by 2;dew 0 0 90;falls 0-5;sun 0;mist 100;");
        x.chance(1);
        Checks.is("0 at least", x.cell(0, 0), 90);
        x = Checks.told("field 2 by 2;sun 0;mist 100;");
        x.days(1);
        Checks.is("days have no mist", x.cell(0, 0), 5);
    }

    private static void rise() {
        DewWages x = Checks.told(ALONE);
        Checks.is("up at another hour", x.rise(0, 8), true);
        Checks.is("he is", x.person(0, 2), 8);
        Checks.is("at that already", x.rise(0, 8), false);
        Checks.is("back", x.rise(0, 0), true);
        Checks.is("hour 9", x.rise(0, 9), false);
        Checks.is("hour -1", x.rise(0, -1), false);
        Checks.is("nobody", x.rise(1, 3), false);
        Checks.is("nobody below", x.rise(-1, 3), false);
        Checks.is("refused", x.status(3), 5);
        Checks.is("acts", x.has(8), 2);
        Checks.is("as before", x.person(0, 2), 0);
    }

    private static void move() {
        DewWages x = Checks.told("field 3 by 2;person a at 0 0 up 0 sheet 30 owes 7;person b at 1 0 up 0 sheet 30 owes 7;");
        Checks.is("another gate", x.move(0, 2, 1), true);
        Checks.is("its column", x.person(0, 0), 2);
        Checks.is("its row", x.person(0, 1), 1);
        Checks.is("that gate already", x.move(0, 2, 1), false);
        Checks.is("the same column", x.move(0, 2, 0), true);
        Checks.is("the same row", x.move(0, 1, 0), true);
        Checks.is("no column", x.move(0, 3, 0), false);
        Checks.is("no row", x.move(0, 0, 2), false);
        Checks.is("no column below", x.move(0, -1, 0), false);
        Checks.is("no row below", x.move(0, 0, -1), false);
        Checks.is("nobody", x.move(2, 0, 0), false);
        Checks.is("nobody below", x.move(-1, 0, 0), false);
        Checks.is("refused", x.status(3), 7);
        Checks.is("acts", x.has(8), 3);
        Checks.is("the other one stays", x.person(1, 0), 1);
    }

    private static void weave() {
        DewWages x = Checks.told(ALONE);
        Checks.is("another sheet", x.weave(0, 99), true);
        Checks.is("it holds", x.person(0, 3), 99);
        Checks.is("as much already", x.weave(0, 99), false);
        Checks.is("sheet 1", x.weave(0, 1), true);
        Checks.is("sheet 0", x.weave(0, 0), false);
        Checks.is("sheet -1", x.weave(0, -1), false);
        Checks.is("sheet 100", x.weave(0, 100), false);
        Checks.is("nobody", x.weave(1, 5), false);
        Checks.is("nobody below", x.weave(-1, 5), false);
        Checks.is("refused", x.status(3), 6);
        Checks.is("acts", x.has(8), 2);
        Checks.is("it holds little", x.days(1), 1);
    }

    private static void undo() {
        DewWages x = Checks.told(ALONE + "mist 50;");
        Checks.is("no act", x.undo(), false);
        Checks.is("refused", x.status(4), 1);
        x.days(3);
        x.rise(0, 4);
        x.move(0, 1, 1);
        x.weave(0, 9);
        int[] before = Checks.image(x);
        x.chance(40);
        int seed = x.has(9);
        Checks.is("undo of 40 days", x.undo(), true);
        Checks.is("the image's size", x.image(), before.length);
        for (int k = 0; k < before.length; k++) {
            Checks.is("all as ahead of it: " + k, x.octet(k), before[k]);
        }
        Checks.is("kept as ahead of it", x.has(6), 3);
        Checks.is("kept as ahead of it, the last one", x.kept(2, 1), 14);
        Checks.is("but the seed", x.has(9), seed);
        Checks.is("undo weave", x.undo() && x.person(0, 3) == 30, true);
        Checks.is("undo move", x.undo() && x.person(0, 0) == 0 && x.person(0, 1) == 0, true);
        Checks.is("undo rise", x.undo() && x.person(0, 2) == 0, true);
        Checks.is("undo days", x.undo() && x.has(3) == 0 && x.has(4) == 10 && x.has(6) == 0 && x.has(5) == 0, true);
        Checks.is("no act more", x.undo(), false);
        Checks.is("refused again", x.status(4), 2);
        x.rise(0, 4);
        Checks.see(x, 0, 0, 0, 0);
        x.seed(9);
        Checks.is("see and seed are no acts", x.has(8), 1);
    }

    private static void undoKeepsTwenty() {
        DewWages x = Checks.told(ALONE);
        for (int i = 1; i <= 25; i++) {
            Checks.is("weave", x.weave(0, i), true);
            Checks.is("acts that can be undone", x.has(8), Math.min(20, i));
        }
        for (int i = 24; i >= 5; i--) {
            Checks.is("undo to " + i, x.undo(), true);
            Checks.is("the sheet is " + i, x.person(0, 3), i);
            Checks.is("acts left", x.has(8), i - 5);
        }
        Checks.is("the sixth act can't be undone", x.undo(), false);
        x.weave(0, 50);
        x.undo();
        Checks.is("an act behind undos", x.person(0, 3), 5);
        // What was kept comes back too, the forty of before.
        for (int i = 0; i < 3; i++) {
            x.days(30);
        }
        Checks.is("the oldest of 90 days", x.kept(0, 0), 50);
        x.undo();
        Checks.is("the oldest of 60 days", x.kept(0, 0), 20);
        Checks.is("forty of them", x.has(6), 40);
        x.undo();
        Checks.is("thirty of them", x.has(6), 30);
        Checks.is("the oldest of 30 days", x.kept(0, 0), 0);
    }

    private static void seed() {
        DewWages x = new DewWages();
        Checks.is("seed 0", x.seed(0), true);
        Checks.is("it is 0", x.has(9), 0);
        Checks.is("the highest seed", x.seed(Integer.MAX_VALUE), true);
        Checks.is("it is that", x.has(9), Integer.MAX_VALUE);
        Checks.is("seed -1", x.seed(-1), false);
        Checks.is("the lowest seed", x.seed(Integer.MIN_VALUE), false);
        Checks.is("it stays", x.has(9), Integer.MAX_VALUE);
        Checks.is("refused", x.status(5), 2);
    }

    private static void kept() {
        DewWages x = Checks.told(ALONE.replace("owes 7", "owes 17") + "person b at 1 1 up 8 sheet 1 owes 99;");
        Checks.is("nothing kept", x.kept(0, 0), -1);
        x.days(3);
        int[][] due = {{0, 20, 1}, {1, 14, 1}, {2, 14, 2}};
        for (int k = 0; k < 3; k++) {
            for (int what = 0; what < 3; what++) {
                Checks.is("kept " + k + " " + what, x.kept(k, what), due[k][what]);
            }
        }
        Checks.is("no more kept", x.kept(3, 0), -1);
        Checks.is("none below", x.kept(-1, 0), -1);
        Checks.is("no what", x.kept(0, 3), -1);
        Checks.is("no what below", x.kept(0, -1), -1);
        x.days(37);
        Checks.is("forty kept", x.has(6), 40);
        Checks.is("the oldest", x.kept(0, 1), 20);
        x.days(2);
        Checks.is("forty kept still", x.has(6), 40);
        Checks.is("the oldest then", x.kept(0, 0), 2);
        Checks.is("the oldest's dry ones", x.kept(0, 2), 2);
        Checks.is("the latest", x.kept(39, 0), 41);
        Checks.is("none behind the latest", x.kept(40, 0), -1);
    }

    private static final String TWO = "field 3 by 2;dew 0 0 40;dew 2 1 9;person a at 0 0 up 0 sheet 30 owes 7;person b at 2 1 up 3 sheet 9 owes 1;mist 50;";

    private interface Act {
        boolean goes(DewWages x);
    }

    /** What is refused is counted once, in its place, and all stays: the seed and the ACTS that can be undone too. */
    private static void isRefused(String what, int kind, Act act) {
        DewWages x = Checks.told(TWO);
        x.days(2);
        x.rise(0, 1);
        Checks.see(x, 0, 0, 0, 0);
        long before = Checks.answers(x);
        Checks.is(what, act.goes(x), false);
        for (int k = 0; k < 6; k++) {
            Checks.is(what + ": status " + k, x.status(k), k == kind ? 1 : 0);
        }
        Checks.is(what + ": all stays", Checks.answers(x), before);
        Checks.is(what + ": the latest act is undone still", x.undo() && x.person(0, 2) == 0 && x.has(8) == 1, true);
    }

    private static void refusedActsChangeNothing() {
        for (int n : new int[] {0, -1, 41, 42, 1000, Integer.MIN_VALUE, Integer.MAX_VALUE}) {
            isRefused("days " + n, 2, x -> x.days(n) != -1);
            isRefused("chance " + n, 2, x -> x.chance(n) != -1);
        }
        for (int p : new int[] {-1, 2, 6, Integer.MIN_VALUE, Integer.MAX_VALUE}) {
            isRefused("rise of " + p, 3, x -> x.rise(p, 5));
            isRefused("move of " + p, 3, x -> x.move(p, 1, 1));
            isRefused("weave of " + p, 3, x -> x.weave(p, 5));
        }
        for (int n : new int[] {-1, 9, 10, Integer.MIN_VALUE, Integer.MAX_VALUE}) {
            isRefused("rise to " + n, 3, x -> x.rise(0, n));
        }
        for (int n : new int[] {-1, 3, 8, Integer.MIN_VALUE, Integer.MAX_VALUE}) {
            isRefused("move to column " + n, 3, x -> x.move(0, n, 0));
            isRefused("move to column " + n + " of row 1", 3, x -> x.move(0, n, 1));
            isRefused("move to row " + n, 3, x -> x.move(0, 1, n == 3 ? 2 : n));
        }
        for (int n : new int[] {0, -1, 100, Integer.MIN_VALUE, Integer.MAX_VALUE}) {
            isRefused("weave of " + n, 3, x -> x.weave(0, n));
        }
        isRefused("up at that HOUR", 3, x -> x.rise(0, 1));
        isRefused("b up at that HOUR", 3, x -> x.rise(1, 3));
        isRefused("that gate", 3, x -> x.move(0, 0, 0));
        isRefused("b's gate", 3, x -> x.move(1, 2, 1));
        isRefused("that sheet", 3, x -> x.weave(0, 30));
        isRefused("b's sheet", 3, x -> x.weave(1, 9));
        isRefused("seed -1", 5, x -> x.seed(-1));
        isRefused("the lowest seed", 5, x -> x.seed(Integer.MIN_VALUE));
        isRefused("see of nothing", 5, x -> x.see() != -1);
        isRefused("on of nothing", 5, DewWages::on);
    }

    private static void leastAndMostOfActs() {
        for (int hour = 0; hour < 9; hour++) {
            DewWages x = Checks.told(TWO);
            Checks.is("rise to " + hour, x.rise(1, hour), hour != 3);
            Checks.is("up then", x.person(1, 2), hour);
            Checks.is("the other one's", x.person(0, 2), 0);
            Checks.is("acts", x.has(8), hour != 3 ? 1 : 0);
        }
        for (int place = 0; place < 6; place++) {
            DewWages x = Checks.told(TWO);
            Checks.is("move to " + place, x.move(0, place % 3, place / 3), place != 0);
            Checks.is("column then", x.person(0, 0), place % 3);
            Checks.is("row then", x.person(0, 1), place / 3);
            Checks.is("acts", x.has(8), place != 0 ? 1 : 0);
            Checks.is("the other one has that gate too", x.move(1, place % 3, place / 3), place != 5);
            Checks.is("the other one's column", x.person(1, 0), place % 3);
            Checks.is("the other one's row", x.person(1, 1), place / 3);
            Checks.is("the first one's stays", x.person(0, 0) + 3 * x.person(0, 1), place);
            x.undo();
            Checks.is("undone for him alone", x.person(0, 0) + 3 * x.person(0, 1), place == 5 ? 0 : place);
        }
        for (int sheet = 1; sheet < 100; sheet++) {
            DewWages x = Checks.told(TWO);
            Checks.is("weave " + sheet, x.weave(1, sheet), sheet != 9);
            Checks.is("sheet then", x.person(1, 3), sheet);
            Checks.is("the other one's", x.person(0, 3), 30);
        }
        for (int n = 1; n <= 40; n++) {
            DewWages x = Checks.told(TWO);
            DewWages y = Checks.told(TWO);
            int sum = 0;
            for (int i = 0; i < n; i++) {
                sum += y.days(1);
            }
            Checks.is("days " + n, x.days(n), sum);
            Checks.is("days " + n + " one by one", x.image() == y.image() && Checks.octets(x) == Checks.octets(y), true);
            Checks.is("one act", x.has(8), 1);
            Checks.is("acts of one day each", y.has(8), Math.min(20, n));
            Checks.is("kept", x.has(6), n);
            Checks.is("no draw", x.has(9), 1);
            Checks.is("undone at once", x.undo() && x.has(3) == 0 && x.has(6) == 0, true);
        }
    }

    /** DAYS go by up to DAY 999, and not beyond. */
    private static void lastDays() {
        for (int day : new int[] {0, 959, 960, 980, 997, 998, 999}) {
            for (int n : new int[] {1, 2, 19, 20, 39, 40}) {
                boolean can = day + n <= 999;
                DewWages x = onDay(day);
                Checks.is("days " + n + " from day " + day, x.days(n) >= 0, can);
                Checks.is("the day then", x.has(3), can ? day + n : day);
                Checks.is("refused", x.status(2), can ? 0 : 1);
                Checks.is("act", x.has(8), can ? 1 : 0);
                x = onDay(day);
                Checks.is("chance " + n + " from day " + day, x.chance(n) >= 0, can);
                Checks.is("the day by the seed then", x.has(3), can ? day + n : day);
                Checks.is("by the seed refused", x.status(2), can ? 0 : 1);
                Checks.is("drawn", x.has(9) != 1, can);
                Checks.is("kept the last day", can ? x.kept(n - 1, 0) : day + n - 1, day + n - 1);
            }
        }
    }

    private static DewWages onDay(int day) {
        DewWages x = Checks.told(TWO);
        Checks.is("on day " + day, Checks.on(x, Checks.checked(day >> 8, day & 255, 0, 0, 0, 0, 0, 0,
            0, 0, 0, 30, 0, 0, 2, 1, 3, 9, 0, 0)), true);
        return x;
    }

    /** Without a mist a DAY by the seed goes as others; with one, twice as much dew falls. */
    private static void chanceIsDaysWithMists() {
        DewWages x = Checks.told(TWO + "falls 2+column;");
        DewWages once = Checks.told(TWO + "falls 2+column;");
        DewWages twice = Checks.told(TWO + "falls (2+column)*2;");
        int mists = 0;
        for (int i = 0; i < 10; i++) {
            int[] now = Checks.image(x);
            boolean mist = DRAWS[i] < 50;
            DewWages y = mist ? twice : once;
            Checks.is("the same day", Checks.on(y, now), true);
            y.days(1);
            Checks.is("mists of day " + i, x.chance(1), mist ? 1 : 0);
            mists += mist ? 1 : 0;
            int[] goes = Checks.image(y);
            int[] went = Checks.image(x);
            for (int k = 0; k < went.length; k++) {
                Checks.is("day " + i + ", byte " + k, went[k], goes[k]);
            }
            Checks.is("kept of day " + i, x.kept(i, 1), y.kept(0, 1));
            Checks.is("dry on day " + i, x.kept(i, 2), y.kept(0, 2));
        }
        DewWages all = Checks.told(TWO + "falls 2+column;");
        Checks.is("mists of all", all.chance(10), mists);
        Checks.is("the seed", all.has(9), x.has(9));
        Checks.is("the dew", all.has(4), x.has(4));
        Checks.is("the purses", all.has(5), x.has(5));
        // A mist on one day is none on the next, and none in what is told of TODAY and of DAYS AHEAD.
        x = Checks.told("field 2 by 2;falls 5;sun 0;mist 100;");
        x.chance(1);
        Checks.is("ten have fallen", x.cell(0, 0), 10);
        Checks.is("five fall today", x.dew(0, 0, -1), 15);
        Checks.is("five fall ahead", x.later(0, 0, 2), 20);
        x.days(1);
        Checks.is("five have fallen", x.cell(0, 0), 15);
    }

    private static void undoOfEachKind() {
        DewWages x = Checks.told(TWO);
        long[] before = new long[26];
        for (int i = 0; i < 26; i++) {
            before[i] = state(x);
            boolean good;
            switch (i % 5) {
                case 0: good = x.days(1 + i) >= 0; break;
                case 1: good = x.rise(i % 2, 4 + i % 5 + i / 10) || x.rise(i % 2, 0); break;
                case 2: good = x.chance(1 + i) >= 0; break;
                case 3: good = x.move(i % 2, i / 5 % 2, 1) || x.move(i % 2, 2, 0); break;
                default: good = x.weave(i % 2, 40 + i); break;
            }
            Checks.is("act " + i, good, true);
            Checks.is("acts that can be undone", x.has(8), Math.min(20, i + 1));
        }
        int seed = x.has(9);
        for (int i = 25; i >= 6; i--) {
            Checks.is("undo of " + i, x.undo(), true);
            Checks.is("as ahead of " + i, state(x), before[i]);
            Checks.is("acts left", x.has(8), i - 6);
        }
        Checks.is("no more than twenty", x.undo(), false);
        Checks.is("as ahead of the last one", state(x), before[6]);
        Checks.is("the seed stays", x.has(9), seed);
    }

    /** All that ACTS change, in eight calls: an image's last byte tells of all of it. */
    private static long state(DewWages x) {
        int[] told = {x.octet(x.image() - 1), x.has(3), x.has(4), x.has(5), x.has(6), x.kept(0, 0), x.kept(0, 1)};
        long all = 7;
        for (int n : told) {
            all = 31 * all + n;
        }
        return all;
    }

    /** The forty that were told come back, each of their numbers. */
    private static void undoKeepsAllThatIsKept() {
        DewWages x = Checks.told(TWO + "falls day%11;");
        x.days(30);
        x.days(15);
        int[] before = rows(x);
        Checks.is("the oldest one told", before[0], 5);
        x.days(40);
        Checks.is("forty others", x.kept(0, 0), 45);
        x.undo();
        int[] behind = rows(x);
        for (int i = 0; i < 120; i++) {
            Checks.is("kept " + i / 3 + " " + i % 3, behind[i], before[i]);
        }
        Checks.is("forty are told", x.has(6), 40);
    }

    private static int[] rows(DewWages x) {
        int[] all = new int[120];
        for (int i = 0; i < 120; i++) {
            all[i] = x.kept(i / 3, i % 3);
        }
        return all;
    }

    /** KEPT is each DAY, of days and of chance: its DAY, how much was wrung, how many were DRY. */
    private static void keptByEachDay() {
        DewWages x = Checks.told("field 2 by 2;falls 9;sun 9;takes day;person a at 0 0 up 8 sheet 99 owes 3;person b at 1 1 up 8 sheet 99 owes 5;"
            + "person c at 1 1 up 8 sheet 2 owes 0;");
        // The sun of HOUR 0 takes all that has fallen.
        x.days(2);
        Checks.is("nothing wrung", x.kept(0, 1) + x.kept(1, 1), 0);
        Checks.is("two dry", x.kept(0, 2) * 10 + x.kept(1, 2), 22);
        x = Checks.told("field 2 by 2;falls 9;sun if(hour=8,99,0);takes day;person a at 0 0 up 8 sheet 99 owes 3;person b at 1 1 up 8 sheet 99 owes 5;"
            + "person c at 1 0 up 8 sheet 2 owes 0;");
        for (int day = 0; day < 7; day++) {
            int due = day + day + Math.min(2, day);
            if (day % 2 == 0) {
                Checks.is("wrung on day " + day, x.days(1), due);
            } else {
                Checks.is("no mist on day " + day, x.chance(1), 0);
            }
            Checks.is("kept: day", x.kept(day, 0), day);
            Checks.is("kept: wrung", x.kept(day, 1), due);
            Checks.is("kept: dry", x.kept(day, 2), (day < 3 ? 1 : 0) + (day < 5 ? 1 : 0));
            Checks.is("kept: no more", x.kept(day + 1, 0), -1);
        }
    }

    /** At nine each is at his gate again, whoever went where. */
    private static void atNineAllAreAtTheirGates() {
        DewWages x = Checks.told("field 4 by 2;dew 3 0 90;dew 2 0 60;dew 1 0 30;falls 0;sun 0;takes 0;person a at 0 0 up 0 sheet 9 owes 0;");
        Checks.is("he goes far", x.today(0, 8, 0), 3);
        x.days(1);
        Checks.is("his gate", x.person(0, 0), 0);
        Checks.is("hour 0 of the next day", x.today(0, 0, 0), 1);
        x.chance(1);
        Checks.is("hour 0 of the day behind", x.today(0, 0, 0), 1);
    }
}
