/** Promises 22 to 29: days, chance, rise, move, weave, undo, seed, kept. */
public final class ActsTest {
    private static final String ALONE = "field 2 by 2;dew 0 0 10;person a at 0 0 up 0 sheet 30 owes 7;";
    /** The first draws of 100 from seed 1 on. */
    private static final int[] DRAWS = {18, 99, 26, 80, 16, 14, 68, 52, 41, 19, 76, 87, 54, 3, 76, 73, 21, 39, 7, 6, 67, 1,
        16, 70, 68, 75, 49, 1, 32, 23, 21, 7, 44, 47, 67, 4, 86, 21, 73, 60};

    public static void main(String[] args) {
        days();
        dayNine();
        chance();
        mists();
        rise();
        move();
        weave();
        undo();
        undoKeepsTwenty();
        seed();
        kept();
        Checks.finish();
    }

    private static void days() {
        DewWages x = Checks.told(ALONE);
        Checks.is("days 1", x.days(1), 20);
        Checks.is("the day", x.has(3), 1);
        Checks.is("the purse", x.person(0, 5), 13);
        Checks.is("days 3", x.days(3), 42);
        Checks.is("the day then", x.has(3), 4);
        Checks.is("the purse then", x.person(0, 5), 34);
        Checks.is("two acts", x.has(8), 2);
        for (int n : new int[] {0, -1, 41, Integer.MIN_VALUE, Integer.MAX_VALUE}) {
            Checks.is("days " + n, x.days(n), -1);
        }
        Checks.is("days: refused", x.status(2), 5);
        Checks.is("days: no act", x.has(8), 2);
        Checks.is("days: no draw", x.has(9), 1);
        for (int i = 0; i < 24; i++) {
            x.days(40);
        }
        Checks.is("day 964", x.has(3), 964);
        Checks.is("days to 1000", x.days(36), -1);
        Checks.is("days to 999", x.days(35), 35 * 14);
        Checks.is("day 999", x.has(3), 999);
        Checks.is("no day more", x.days(1), -1);
        Checks.is("999 at most", x.person(0, 5), 999);
    }

    private static void dayNine() {
        DewWages x = Checks.told("field 3 by 2;dew 2 0 40;falls 0;sun 0;person a at 0 0 up 0 sheet 30 owes 0;person b at 1 0 up 0 sheet 5 owes 6;person c at 2 1 up 7 sheet 9 owes 9;");
        Checks.is("wrung by all", x.days(1), 14);
        Checks.is("a has nothing near", x.person(0, 5), 0);
        Checks.is("b is dry", x.person(1, 5), 0);
        Checks.is("c has just what he owes", x.person(2, 5), 0);
        Checks.is("one was dry", x.kept(0, 2), 1);
        Checks.is("the rest stays", x.cell(2, 0), 26);
        Checks.is("gates stay", x.person(2, 1), 1);
        Checks.is("b begins at his gate again", x.today(1, 0, 2), 5);
        // From what he has and from his purse.
        x = Checks.told("field 2 by 2;falls if(day=0,9,2);sun 0;takes 99;person a at 0 0 up 8 sheet 99 owes 5;");
        x.days(1);
        Checks.is("purse 4", x.person(0, 5), 4);
        x.move(0, 1, 1);
        x.days(1);
        Checks.is("11 more", x.person(0, 5), 10);
    }

    private static void chance() {
        for (int mist : new int[] {0, 1, 18, 19, 99, 100}) {
            DewWages x = Checks.told(ALONE + "mist " + mist + ";");
            int due = 0;
            for (int draw : DRAWS) {
                due += draw < mist ? 1 : 0;
            }
            Checks.is("mists of 40 days, mist " + mist, x.chance(40), due);
            Checks.is("one act", x.has(8), 1);
            Checks.is("40 days", x.has(3), 40);
            Checks.is("40 kept", x.has(6), 40);
        }
        DewWages x = Checks.told(ALONE + "mist 19;");
        Checks.is("the first day has a mist", x.chance(1), 1);
        Checks.is("the seed behind a draw", x.has(9), 1103527590);
        Checks.is("the second one has none", x.chance(1), 0);
        Checks.is("the seed behind two draws", x.has(9), 377401575);
        for (int n : new int[] {0, -1, 41, Integer.MIN_VALUE, Integer.MAX_VALUE}) {
            Checks.is("chance " + n, x.chance(n), -1);
        }
        Checks.is("chance: refused", x.status(2), 5);
        Checks.is("chance: no draw", x.has(9), 377401575);
        Checks.is("chance: no act", x.has(8), 2);
        Checks.on(x, Checks.checked(3, 230, 0, 0, 0, 0, 0, 0, 0, 30, 0, 0));
        Checks.is("chance beyond 999", x.chance(2), -1);
        Checks.is("chance to 999", x.chance(1), 0);
        Checks.is("day 999", x.has(3), 999);
        x = Checks.told("field 2 by 2;");
        x.seed(Integer.MAX_VALUE);
        x.chance(1);
        Checks.is("the seed behind the highest one", x.has(9), 1043980748);
        x.seed(0);
        x.chance(1);
        Checks.is("the seed behind 0", x.has(9), 12345);
    }

    private static void mists() {
        DewWages x = Checks.told("field 2 by 2;falls 3+column;sun 0;mist 19;");
        x.chance(1);
        Checks.is("twice as much", x.cell(0, 0), 6);
        Checks.is("twice as much elsewhere", x.cell(1, 1), 8);
        x.chance(1);
        Checks.is("once as much", x.cell(0, 0), 9);
        x = Checks.told("field 2 by 2;dew 0 0 90;falls 5;sun 0;mist 100;");
        x.chance(1);
        Checks.is("99 at most", x.cell(0, 0), 99);
        Checks.is("twice five", x.cell(1, 0), 10);
        x = Checks.told("field 2 by 2;dew 0 0 90;falls 0-5;sun 0;mist 100;");
        x.chance(1);
        Checks.is("0 at least", x.cell(0, 0), 90);
        x = Checks.told("field 2 by 2;sun 0;mist 100;");
        x.days(1);
        Checks.is("days have no mist", x.cell(0, 0), 5);
    }

    private static void rise() {
        DewWages x = Checks.told(ALONE);
        Checks.is("up at another hour", x.rise(0, 8), true);
        Checks.is("he is", x.person(0, 2), 8);
        Checks.is("at that already", x.rise(0, 8), false);
        Checks.is("back", x.rise(0, 0), true);
        Checks.is("hour 9", x.rise(0, 9), false);
        Checks.is("hour -1", x.rise(0, -1), false);
        Checks.is("nobody", x.rise(1, 3), false);
        Checks.is("nobody below", x.rise(-1, 3), false);
        Checks.is("refused", x.status(3), 5);
        Checks.is("acts", x.has(8), 2);
        Checks.is("as before", x.person(0, 2), 0);
    }

    private static void move() {
        DewWages x = Checks.told("field 3 by 2;person a at 0 0 up 0 sheet 30 owes 7;person b at 1 0 up 0 sheet 30 owes 7;");
        Checks.is("another gate", x.move(0, 2, 1), true);
        Checks.is("its column", x.person(0, 0), 2);
        Checks.is("its row", x.person(0, 1), 1);
        Checks.is("that gate already", x.move(0, 2, 1), false);
        Checks.is("the same column", x.move(0, 2, 0), true);
        Checks.is("the same row", x.move(0, 1, 0), true);
        Checks.is("no column", x.move(0, 3, 0), false);
        Checks.is("no row", x.move(0, 0, 2), false);
        Checks.is("no column below", x.move(0, -1, 0), false);
        Checks.is("no row below", x.move(0, 0, -1), false);
        Checks.is("nobody", x.move(2, 0, 0), false);
        Checks.is("nobody below", x.move(-1, 0, 0), false);
        Checks.is("refused", x.status(3), 7);
        Checks.is("acts", x.has(8), 3);
        Checks.is("the other one stays", x.person(1, 0), 1);
    }

    private static void weave() {
        DewWages x = Checks.told(ALONE);
        Checks.is("another sheet", x.weave(0, 99), true);
        Checks.is("it holds", x.person(0, 3), 99);
        Checks.is("as much already", x.weave(0, 99), false);
        Checks.is("sheet 1", x.weave(0, 1), true);
        Checks.is("sheet 0", x.weave(0, 0), false);
        Checks.is("sheet -1", x.weave(0, -1), false);
        Checks.is("sheet 100", x.weave(0, 100), false);
        Checks.is("nobody", x.weave(1, 5), false);
        Checks.is("nobody below", x.weave(-1, 5), false);
        Checks.is("refused", x.status(3), 6);
        Checks.is("acts", x.has(8), 2);
        Checks.is("it holds little", x.days(1), 1);
    }

    private static void undo() {
        DewWages x = Checks.told(ALONE + "mist 50;");
        Checks.is("no act", x.undo(), false);
        Checks.is("refused", x.status(4), 1);
        x.days(3);
        x.rise(0, 4);
        x.move(0, 1, 1);
        x.weave(0, 9);
        int[] before = Checks.image(x);
        x.chance(40);
        int seed = x.has(9);
        Checks.is("undo of 40 days", x.undo(), true);
        Checks.is("the image's size", x.image(), before.length);
        for (int k = 0; k < before.length; k++) {
            Checks.is("all as ahead of it: " + k, x.octet(k), before[k]);
        }
        Checks.is("kept as ahead of it", x.has(6), 3);
        Checks.is("kept as ahead of it, the last one", x.kept(2, 1), 14);
        Checks.is("but the seed", x.has(9), seed);
        Checks.is("undo weave", x.undo() && x.person(0, 3) == 30, true);
        Checks.is("undo move", x.undo() && x.person(0, 0) == 0 && x.person(0, 1) == 0, true);
        Checks.is("undo rise", x.undo() && x.person(0, 2) == 0, true);
        Checks.is("undo days", x.undo() && x.has(3) == 0 && x.has(4) == 10 && x.has(6) == 0 && x.has(5) == 0, true);
        Checks.is("no act more", x.undo(), false);
        Checks.is("refused again", x.status(4), 2);
        x.rise(0, 4);
        Checks.see(x, 0, 0, 0, 0);
        x.seed(9);
        Checks.is("see and seed are no acts", x.has(8), 1);
    }

    private static void undoKeepsTwenty() {
        DewWages x = Checks.told(ALONE);
        for (int i = 1; i <= 25; i++) {
            Checks.is("weave", x.weave(0, i), true);
            Checks.is("acts that can be undone", x.has(8), Math.min(20, i));
        }
        for (int i = 24; i >= 5; i--) {
            Checks.is("undo to " + i, x.undo(), true);
            Checks.is("the sheet is " + i, x.person(0, 3), i);
            Checks.is("acts left", x.has(8), i - 5);
        }
        Checks.is("the sixth act can't be undone", x.undo(), false);
        x.weave(0, 50);
        x.undo();
        Checks.is("an act behind undos", x.person(0, 3), 5);
        // What was kept comes back too, the forty of before.
        for (int i = 0; i < 3; i++) {
            x.days(30);
        }
        Checks.is("the oldest of 90 days", x.kept(0, 0), 50);
        x.undo();
        Checks.is("the oldest of 60 days", x.kept(0, 0), 20);
        Checks.is("forty of them", x.has(6), 40);
        x.undo();
        Checks.is("thirty of them", x.has(6), 30);
        Checks.is("the oldest of 30 days", x.kept(0, 0), 0);
    }

    private static void seed() {
        DewWages x = new DewWages();
        Checks.is("seed 0", x.seed(0), true);
        Checks.is("it is 0", x.has(9), 0);
        Checks.is("the highest seed", x.seed(Integer.MAX_VALUE), true);
        Checks.is("it is that", x.has(9), Integer.MAX_VALUE);
        Checks.is("seed -1", x.seed(-1), false);
        Checks.is("the lowest seed", x.seed(Integer.MIN_VALUE), false);
        Checks.is("it stays", x.has(9), Integer.MAX_VALUE);
        Checks.is("refused", x.status(5), 2);
    }

    private static void kept() {
        DewWages x = Checks.told(ALONE.replace("owes 7", "owes 17") + "person b at 1 1 up 8 sheet 1 owes 99;");
        Checks.is("nothing kept", x.kept(0, 0), -1);
        x.days(3);
        int[][] due = {{0, 20, 1}, {1, 14, 1}, {2, 14, 2}};
        for (int k = 0; k < 3; k++) {
            for (int what = 0; what < 3; what++) {
                Checks.is("kept " + k + " " + what, x.kept(k, what), due[k][what]);
            }
        }
        Checks.is("no more kept", x.kept(3, 0), -1);
        Checks.is("none below", x.kept(-1, 0), -1);
        Checks.is("no what", x.kept(0, 3), -1);
        Checks.is("no what below", x.kept(0, -1), -1);
        x.days(37);
        Checks.is("forty kept", x.has(6), 40);
        Checks.is("the oldest", x.kept(0, 1), 20);
        x.days(2);
        Checks.is("forty kept still", x.has(6), 40);
        Checks.is("the oldest then", x.kept(0, 0), 2);
        Checks.is("the oldest's dry ones", x.kept(0, 2), 2);
        Checks.is("the latest", x.kept(39, 0), 41);
        Checks.is("none behind the latest", x.kept(40, 0), -1);
    }
}
