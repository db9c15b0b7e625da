/** Promises 10 to 15: today, dew, up, home, way, changed. */
public final class TodayTest {
    /** One person alone: 9, 5, 3, 2 and 1 are wrung in the first five HOURS. */
    private static final String ALONE = "field 2 by 2;dew 0 0 10;person a at 0 0 up 0 sheet 30 owes 7;";

    public static void main(String[] args) {
        todayAlone();
        todayEdges();
        goesWhereMostIs();
        wrings();
        dew();
        up();
        home();
        way();
        wayOfOthers();
        changed();
        isLearntAnew();
        Checks.finish();
    }

    private static void todayAlone() {
        DewWages x = Checks.told(ALONE);
        int[] column = {0, 0, 1, 1, 0, 0, 0, 0, 0};
        int[] row = {0, 0, 0, 1, 1, 1, 1, 1, 1};
        int[] have = {9, 14, 17, 19, 20, 20, 20, 20, 20};
        for (int hour = 0; hour < 9; hour++) {
            Checks.is("today: column " + hour, x.today(0, hour, 0), column[hour]);
            Checks.is("today: row " + hour, x.today(0, hour, 1), row[hour]);
            Checks.is("today: has " + hour, x.today(0, hour, 2), have[hour]);
        }
        Checks.is("today changes nothing", x.has(4), 10);
    }

    private static void todayEdges() {
        DewWages x = Checks.told(ALONE + "person b at 1 0 up 3 sheet 5 owes 0;");
        for (int hour = 0; hour < 3; hour++) {
            Checks.is("not up: column", x.today(1, hour, 0), 1);
            Checks.is("not up: row", x.today(1, hour, 1), 0);
            Checks.is("not up: has", x.today(1, hour, 2), 0);
        }
        Checks.is("nobody", x.today(2, 0, 0), -1);
        Checks.is("nobody below", x.today(-1, 0, 0), -1);
        Checks.is("no hour 9", x.today(0, 9, 0), -1);
        Checks.is("no hour -1", x.today(0, -1, 0), -1);
        Checks.is("no what 3", x.today(0, 0, 3), -1);
        Checks.is("no what -1", x.today(0, 0, -1), -1);
    }

    /** Where he is behind hour 0, from the middle of three by three, each of the five with some dew. */
    private static void goes(int stay, int left, int right, int above, int below, int column, int row) {
        DewWages x = Checks.told("field 3 by 3;dew 1 1 " + stay + ";dew 0 1 " + left + ";dew 2 1 " + right
            + ";dew 1 0 " + above + ";dew 1 2 " + below + ";dew 0 0 99;dew 2 2 99;falls 0;sun 0;"
            + "person a at 1 1 up 0 sheet 9 owes 0;");
        String what = "of " + stay + " " + left + " " + right + " " + above + " " + below;
        Checks.is("column " + what, x.today(0, 0, 0), column);
        Checks.is("row " + what, x.today(0, 0, 1), row);
    }

    private static void goesWhereMostIs() {
        goes(5, 5, 5, 5, 5, 1, 1);
        goes(4, 5, 5, 5, 5, 0, 1);
        goes(4, 4, 5, 5, 5, 2, 1);
        goes(4, 4, 4, 5, 5, 1, 0);
        goes(4, 4, 4, 4, 5, 1, 2);
        goes(5, 4, 4, 4, 4, 1, 1);
        goes(4, 5, 4, 6, 5, 1, 0);
        goes(0, 0, 0, 0, 0, 1, 1);
        // At the field's corners there are fewer.
        DewWages x = Checks.told("field 2 by 3;dew 1 0 9;person a at 0 0 up 0 sheet 9 owes 0;person b at 1 2 up 0 sheet 9 owes 0;falls 0;sun 0;");
        Checks.is("corner: column", x.today(0, 0, 0), 1);
        Checks.is("corner: row", x.today(0, 0, 1), 0);
        Checks.is("no cell behind the last one", x.today(1, 0, 0), 1);
        Checks.is("no row behind the last one", x.today(1, 0, 1), 2);
        // From a row's end the next row's first cell is not beside.
        x = Checks.told("field 2 by 2;dew 0 1 9;person a at 1 0 up 0 sheet 9 owes 0;falls 0;sun 0;");
        Checks.is("a row's end: column", x.today(0, 0, 0), 1);
        Checks.is("a row's end: row", x.today(0, 0, 1), 0);
        x = Checks.told("field 2 by 2;dew 1 0 9;person a at 0 1 up 0 sheet 9 owes 0;falls 0;sun 0;");
        Checks.is("a row's begin: column", x.today(0, 0, 0), 0);
        Checks.is("a row's begin: row", x.today(0, 0, 1), 1);
    }

    private static void wrings() {
        // Person by person: the first one takes all, and the second one sees that.
        DewWages x = Checks.told("field 2 by 2;dew 0 0 9;dew 1 1 4;person b at 1 0 up 0 sheet 9 owes 0;person a at 1 0 up 0 sheet 9 owes 0;falls 0;sun 0;");
        Checks.is("the first one's column", x.today(0, 0, 0), 0);
        Checks.is("the first one has", x.today(0, 0, 2), 9);
        Checks.is("the second one's row", x.today(1, 0, 1), 1);
        Checks.is("the second one has", x.today(1, 0, 2), 4);
        x = Checks.told("field 2 by 2;dew 0 0 90;person a at 0 0 up 0 sheet 20 owes 0;falls 0;sun 0;");
        Checks.is("9 when takes is untold", x.today(0, 0, 2), 9);
        Checks.is("no more than the sheet holds", x.today(0, 2, 2), 20);
        Checks.is("and the rest stays", x.dew(0, 0, 8), 70);
        x = Checks.told("field 2 by 2;dew 0 0 90;person a at 0 0 up 0 sheet 20 owes 0;falls 0;sun 0;takes 0-3;");
        Checks.is("takes below 0", x.today(0, 8, 2), 0);
        Checks.is("takes below 0: the dew", x.dew(0, 0, 8), 90);
        x = Checks.told("field 2 by 2;dew 0 0 90;dew 1 1 3;falls 0;sun 0-1;");
        Checks.is("sun below 0", x.dew(0, 0, 8), 90);
        x = Checks.told("field 2 by 2;dew 0 0 90;dew 1 1 3;falls 0;sun 4;");
        Checks.is("sun 4", x.dew(0, 0, 1), 82);
        Checks.is("sun, no more than there is", x.dew(1, 1, 0), 0);
    }

    private static void dew() {
        DewWages x = Checks.told(ALONE);
        int[] first = {5, 0, 0, 0, 0, 0, 0, 0, 0};
        int[] third = {4, 3, 2, 1, 0, 0, 0, 0, 0};
        Checks.is("behind what falls", x.dew(0, 0, -1), 15);
        Checks.is("behind what falls, elsewhere", x.dew(0, 1, -1), 5);
        for (int hour = 0; hour < 9; hour++) {
            Checks.is("dew 0 0 " + hour, x.dew(0, 0, hour), first[hour]);
            Checks.is("dew 0 1 " + hour, x.dew(0, 1, hour), third[hour]);
        }
        Checks.is("no column", x.dew(2, 0, 0), -1);
        Checks.is("no row", x.dew(0, 2, 0), -1);
        Checks.is("no column below", x.dew(-1, 0, 0), -1);
        Checks.is("no row below", x.dew(0, -1, 0), -1);
        Checks.is("no hour 9", x.dew(0, 0, 9), -1);
        Checks.is("no hour -2", x.dew(0, 0, -2), -1);
        x = Checks.told("field 2 by 2;dew 0 0 97;dew 1 0 94;dew 0 1 93;falls 5;mist 100;");
        Checks.is("99 at most", x.dew(0, 0, -1), 99);
        Checks.is("just 99", x.dew(1, 0, -1), 99);
        Checks.is("without a mist", x.dew(0, 1, -1), 98);
        x = Checks.told("field 2 by 2;dew 0 0 97;falls 0-5;");
        Checks.is("falls below 0", x.dew(0, 0, -1), 97);
    }

    private static void up() {
        DewWages x = Checks.told(ALONE.replace("up 0", "up 1"));
        Checks.is("up: best hour", x.up(0, 0), 0);
        Checks.is("up: most", x.up(0, 1), 20);
        Checks.is("up changes nothing", x.person(0, 2), 1);
        Checks.is("no what", x.up(0, 2), -1);
        Checks.is("no what below", x.up(0, -1), -1);
        Checks.is("nobody", x.up(1, 0), -1);
        Checks.is("nobody below", x.up(-1, 0), -1);
        x = Checks.told("field 2 by 2;person a at 0 0 up 3 sheet 9 owes 0;sun 0;takes if(have=0,hour%5,0);");
        Checks.is("up: of like ones the first", x.up(0, 0), 4);
        Checks.is("up: as much as once", x.up(0, 1), 4);
        x = Checks.told("field 2 by 2;dew 0 0 99;person a at 0 0 up 3 sheet 99 owes 0;sun 0;takes if(have=0,hour,0);");
        Checks.is("up: the last hour", x.up(0, 0), 8);
        Checks.is("up: eight at once", x.up(0, 1), 8);
        // b is there first from hour 2 on, as b is.
        x = Checks.told("field 2 by 2;dew 0 0 9;person b at 0 0 up 2 sheet 99 owes 0;person a at 0 0 up 3 sheet 99 owes 0;falls 0;sun 0;takes hour*hour*9;");
        Checks.is("up: ahead of b", x.up(1, 0), 0);
        Checks.is("up: what b would have", x.up(1, 1), 9);
        x.rise(0, 0);
        Checks.is("up: never ahead of b", x.up(1, 1), 0);
    }

    private static void home() {
        DewWages x = Checks.told("field 2 by 2;dew 1 1 40;person a at 0 0 up 0 sheet 60 owes 0;falls 0;sun 0;takes if(have<1,dew,0);");
        Checks.is("home: column", x.home(0, 0), 1);
        Checks.is("home: row by row", x.home(0, 1), 0);
        Checks.is("home: has", x.home(0, 2), 40);
        Checks.is("home changes nothing", x.person(0, 0), 0);
        Checks.is("no what", x.home(0, 3), -1);
        Checks.is("no what below", x.home(0, -1), -1);
        Checks.is("nobody", x.home(1, 0), -1);
        Checks.is("nobody below", x.home(-1, 0), -1);
        x = Checks.told("field 4 by 3;dew 3 2 40;dew 0 0 39;person a at 1 0 up 0 sheet 60 owes 0;falls 0;sun 0;takes if(have<1,dew,0);");
        Checks.is("home far away: column", x.home(0, 0), 3);
        Checks.is("home far away: row", x.home(0, 1), 1);
        Checks.is("home far away: has", x.home(0, 2), 40);
        x = Checks.told("field 2 by 2;person a at 1 1 up 0 sheet 60 owes 0;falls 0;");
        Checks.is("home: nothing anywhere: column", x.home(0, 0), 0);
        Checks.is("home: nothing anywhere: row", x.home(0, 1), 0);
        Checks.is("home: nothing anywhere: has", x.home(0, 2), 0);
    }

    private static void isWay(DewWages x, int person, int n, int has, int... steps) {
        Checks.is("way of " + n + ": has", x.way(person, n, -1), has);
        for (int k = 0; k < n; k++) {
            Checks.is("way of " + n + ": step " + k, x.way(person, n, k), steps[k]);
        }
        Checks.is("way of " + n + ": no more steps", x.way(person, n, n), -1);
        Checks.is("way of " + n + ": none below", x.way(person, n, -2), -1);
    }

    private static void way() {
        String text = "field 3 by 2;dew 1 0 5;dew 2 0 20;dew 0 1 9;person a at 0 0 up 2 sheet 99 owes 0;falls 0;sun 0;takes 99;";
        DewWages x = Checks.told(text);
        isWay(x, 0, 1, 9, 4);
        isWay(x, 0, 2, 25, 2, 2);
        isWay(x, 0, 3, 25, 0, 2, 2);
        isWay(x, 0, 4, 34, 4, 2, 3, 2);
        isWay(x, 0, 5, 34, 0, 4, 2, 3, 2);
        Checks.is("no way of 0", x.way(0, 0, -1), -1);
        Checks.is("no way of -1", x.way(0, -1, -1), -1);
        Checks.is("no way of 6", x.way(0, 6, -1), -1);
        Checks.is("nobody", x.way(1, 1, -1), -1);
        Checks.is("nobody below", x.way(-1, 1, -1), -1);
        isWay(Checks.told(text.replace("sheet 99", "sheet 15")), 0, 2, 15, 2, 2);
        isWay(Checks.told(text.replace("at 0 0", "at 2 1")), 0, 2, 25, 3, 1);
        // The sun of the hours ahead counts, and of those between.
        isWay(Checks.told(text.replace("sun 0", "sun 2")), 0, 2, 15, 2, 2);
        x = Checks.told(text.replace("up 2", "up 5"));
        Checks.is("up to hour 8", x.way(0, 4, -1), 34);
        Checks.is("beyond hour 8", x.way(0, 5, -1), -1);
        x = Checks.told(text.replace("up 2", "up 8"));
        Checks.is("hour 8 alone", x.way(0, 1, -1), 9);
        Checks.is("hour 9", x.way(0, 2, -1), -1);
    }

    private static void wayOfOthers() {
        String text = "field 3 by 2;dew 1 0 5;dew 2 0 20;dew 0 1 9;person a at 0 0 up 2 sheet 99 owes 0;"
            + "person b at 2 0 up 2 sheet 99 owes 0;falls 0;sun 0;takes 99;";
        DewWages x = Checks.told(text);
        isWay(x, 0, 2, 9, 0, 4);
        isWay(x, 0, 3, 14, 2, 1, 4);
        isWay(x, 1, 1, 20, 0);
        isWay(x, 1, 2, 25, 0, 1);
        // b goes first in hour 2 when he is the first one.
        x = Checks.told("field 2 by 2;dew 1 0 8;person b at 1 1 up 1 sheet 99 owes 0;person a at 0 0 up 1 sheet 99 owes 0;falls 0;sun 0;takes 5;");
        isWay(x, 1, 1, 3, 2);
        isWay(x, 0, 1, 5, 3);
        // The other one goes as he does when a leaves him something else: b, at 0 1, follows the most dew.
        x = Checks.told("field 3 by 2;dew 0 0 10;dew 1 0 7;dew 2 0 7;person a at 1 0 up 0 sheet 99 owes 0;person b at 0 1 up 0 sheet 99 owes 0;falls 0;sun 0;takes 10;");
        Checks.is("today a takes the ten", x.today(0, 0, 0), 0);
        Checks.is("today b stays", x.today(1, 0, 1), 1);
        isWay(x, 0, 2, 17, 1, 2);
        isWay(x, 0, 3, 24, 1, 2, 2);
    }

    private static void changed() {
        DewWages x = Checks.told("field 8 by 2;dew 0 0 40;person a at 0 0 up 0 sheet 5 owes 0;person b at 7 0 up 0 sheet 50 owes 0;falls 0;sun 0;");
        Checks.is("changed: first", x.changed(0), 0);
        Checks.is("changed: second", x.changed(1), 1);
        Checks.is("changed: wrung", x.changed(2), 40);
        Checks.is("no what", x.changed(3), -1);
        Checks.is("no what below", x.changed(-1), -1);
        Checks.is("changed changes nothing", x.person(0, 3), 5);
        x = Checks.told("field 8 by 2;dew 0 0 40;person a at 0 0 up 0 sheet 50 owes 0;person b at 7 0 up 0 sheet 5 owes 0;falls 0;sun 0;");
        for (int what = 0; what < 3; what++) {
            Checks.is("none is better", x.changed(what), -1);
        }
        x = Checks.told("field 8 by 2;dew 0 0 40;person a at 0 0 up 0 sheet 5 owes 0;falls 0;sun 0;");
        Checks.is("one alone", x.changed(0), -1);
        // Two pairs are as good: the first one is told.
        x = Checks.told("field 8 by 2;dew 4 0 40;person c at 0 1 up 0 sheet 9 owes 0;person a at 4 0 up 0 sheet 5 owes 0;person b at 7 0 up 0 sheet 9 owes 0;falls 0;sun 0;");
        Checks.is("the first pair: first", x.changed(0), 0);
        Checks.is("the first pair: second", x.changed(1), 1);
        Checks.is("the first pair: wrung", x.changed(2), 9);
        x = Checks.told("field 8 by 2;dew 4 0 40;person c at 0 1 up 0 sheet 8 owes 0;person a at 4 0 up 0 sheet 5 owes 0;person b at 7 0 up 0 sheet 9 owes 0;falls 0;sun 0;");
        Checks.is("a later pair: first", x.changed(0), 1);
        Checks.is("a later pair: second", x.changed(1), 2);
        Checks.is("a later pair: wrung", x.changed(2), 9);
    }

    /** What was asked for once is not told when it is so no more. */
    private static void isLearntAnew() {
        DewWages x = Checks.told(ALONE);
        ask(x, 9, 20, 22, 9);
        x.weave(0, 8);
        ask(x, 8, 8, 8, 8);
        x.undo();
        ask(x, 9, 20, 22, 9);
        x.days(1);
        ask(x, 5, 14, 14, 5);
        x.undo();
        ask(x, 9, 20, 22, 9);
        x.move(0, 1, 1);
        ask(x, 5, 22, 22, 5);
        x.rise(0, 1);
        ask(x, 0, 22, 18, 4);
        Checks.valley(x, ALONE);
        ask(x, 9, 20, 22, 9);
        Checks.on(x, Checks.checked(0, 0, 0, 0, 0, 0, 0, 0, 0, 3, 0, 0));
        ask(x, 3, 3, 3, 3);
    }

    private static void ask(DewWages x, int today, int up, int home, int way) {
        Checks.is("today then", x.today(0, 0, 2), today);
        Checks.is("up then", x.up(0, 1), up);
        Checks.is("home then", x.home(0, 2), home);
        Checks.is("way then", x.way(0, 1, -1), way);
    }
}
