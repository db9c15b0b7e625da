/** Promises 10 to 15: today, dew, up, home, way, changed. */
public final class TodayTest {
    /** One person alone: 9, 5, 3, 2 and 1 are wrung in the first five HOURS. */
    private static final String ALONE = "field 2 by 2;dew 0 0 10;person a at 0 0 up 0 sheet 30 owes 7;";

    public static void main(String[] args) {
        todayAlone();
        todayEdges();
        goesWhereMostIs();
        wrings();
        dew();
        up();
        upOfOneAmongOthers();
        home();
        way();
        wayOfOthers();
        changed();
        isLearntAnew();
        isOfTheDayOfNow();
        firstAndLastHourOfUpAndHome();
        wayHourByHour();
        wayWithOthersUpLater();
        wayAtTheEdges();
        changedPairByPair();
        changedIsLearntAnew();
        Checks.finish();
    }

    private static void todayAlone() {
        DewWages x = Checks.told(ALONE);
        int[] column = {0, 0, 1, 1, 0, 0, 0, 0, 0};
        int[] row = {0, 0, 0, 1, 1, 1, 1, 1, 1};
        int[] have = {9, 14, 17, 19, 20, 20, 20, 20, 20};
        for (int hour = 0; hour < 9; hour++) {
            Checks.is("today: column " + hour, x.today(0, hour, 0), column[hour]);
            Checks.is("today: row " + hour, x.today(0, hour, 1), row[hour]);
            Checks.is("today: has " + hour, x.today(0, hour, 2), have[hour]);
        }
        Checks.is("today changes nothing", x.has(4), 10);
    }

    private static void todayEdges() {
        DewWages x = Checks.told(ALONE + "person b at 1 0 up 3 sheet 5 owes 0;");
        for (int hour = 0; hour < 3; hour++) {
            Checks.is("not up: column", x.today(1, hour, 0), 1);
            Checks.is("not up: row", x.today(1, hour, 1), 0);
            Checks.is("not up: has", x.today(1, hour, 2), 0);
        }
        Checks.is("nobody", x.today(2, 0, 0), -1);
        Checks.is("nobody below", x.today(-1, 0, 0), -1);
        Checks.is("no hour 9", x.today(0, 9, 0), -1);
        Checks.is("no hour -1", x.today(0, -1, 0), -1);
        Checks.is("no what 3", x.today(0, 0, 3), -1);
        Checks.is("no what -1", x.today(0, 0, -1), -1);
    }

    /** Where he is behind hour 0, from the middle of three by three, each of the five with some dew. */
    private static void goes(int stay, int left, int right, int above, int below, int column, int row) {
        DewWages x = Checks.told("field 3 by 3;dew 1 1 " + stay + ";dew 0 1 " + left + ";dew 2 1 " + right
            + ";dew 1 0 " + above + ";dew 1 2 " + below + ";dew 0 0 99;dew 2 2 99;falls 0;sun 0;"
            + "person a at 1 1 up 0 sheet 9 owes 0;");
        String what = "of " + stay + " " + left + " " + right + " " + above + " " + below;
        Checks.is("column " + what, x.today(0, 0, 0), column);
        Checks.is("row " + what, x.today(0, 0, 1), row);
    }

    private static void goesWhereMostIs() {
        goes(5, 5, 5, 5, 5, 1, 1);
        goes(4, 5, 5, 5, 5, 0, 1);
        goes(4, 4, 5, 5, 5, 2, 1);
        goes(4, 4, 4, 5, 5, 1, 0);
        goes(4, 4, 4, 4, 5, 1, 2);
        goes(5, 4, 4, 4, 4, 1, 1);
        goes(4, 5, 4, 6, 5, 1, 0);
        goes(0, 0, 0, 0, 0, 1, 1);
        // At the field's corners there are fewer.
        DewWages x = Checks.told("field 2 by 3;dew 1 0 9;person a at 0 0 up 0 sheet 9 owes 0;person b at 1 2 up 0 sheet 9 owes 0;falls 0;sun 0;");
        Checks.is("corner: column", x.today(0, 0, 0), 1);
        Checks.is("corner: row", x.today(0, 0, 1), 0);
        Checks.is("no cell behind the last one", x.today(1, 0, 0), 1);
        Checks.is("no row behind the last one", x.today(1, 0, 1), 2);
        // From a row's end the next row's first cell is not beside.
        x = Checks.told("field 2 by 2;dew 0 1 9;person a at 1 0 up 0 sheet 9 owes 0;falls 0;sun 0;");
        Checks.is("a row's end: column", x.today(0, 0, 0), 1);
        Checks.is("a row's end: row", x.today(0, 0, 1), 0);
        x = Checks.told("field 2 by 2;dew 1 0 9;person a at 0 1 up 0 sheet 9 owes 0;falls 0;sun 0;");
        Checks.is("a row's begin: column", x.today(0, 0, 0), 0);
        Checks.is("a row's begin: row", x.today(0, 0, 1), 1);
    }

    private static void wrings() {
        // Person by person: the first one takes all, and the second one sees that.
        DewWages x = Checks.told("field 2 by 2;dew 0 0 9;dew 1 1 4;person b at 1 0 up 0 sheet 9 owes 0;person a at 1 0 up 0 sheet 9 owes 0;falls 0;sun 0;");
        Checks.is("the first one's column", x.today(0, 0, 0), 0);
        Checks.is("the first one has", x.today(0, 0, 2), 9);
        Checks.is("the second one's row", x.today(1, 0, 1), 1);
        Checks.is("the second one has", x.today(1, 0, 2), 4);
        x = Checks.told("field 2 by 2;dew 0 0 90;person a at 0 0 up 0 sheet 20 owes 0;falls 0;sun 0;");
        Checks.is("9 when takes is untold", x.today(0, 0, 2), 9);
        Checks.is("no more than the sheet holds", x.today(0, 2, 2), 20);
        Checks.is("and the rest stays", x.dew(0, 0, 8), 70);
        x = Checks.told("field 2 by 2;dew 0 0 90;person a at 0 0 up 0 sheet 20 owes 0;falls 0;sun 0;takes 0-3;");
        Checks.is("takes below 0", x.today(0, 8, 2), 0);
        Checks.is("takes below 0: the dew", x.dew(0, 0, 8), 90);
        x = Checks.told("field 2 by 2;dew 0 0 90;dew 1 1 3;falls 0;sun 0-1;");
        Checks.is("sun below 0", x.dew(0, 0, 8), 90);
        x = Checks.told("field 2 by 2;dew 0 0 90;dew 1 1 3;falls 0;sun 4;");
        Checks.is("sun 4", x.dew(0, 0, 1), 82);
        Checks.is("sun, no more than there is", x.dew(1, 1, 0), 0);
    }

    private static void dew() {
        DewWages x = Checks.told(ALONE);
        int[] first = {5, 0, 0, 0, 0, 0, 0, 0, 0};
        int[] third = {4, 3, 2, 1, 0, 0, 0, 0, 0};
        Checks.is("behind what falls", x.dew(0, 0, -1), 15);
        Checks.is("behind what falls, elsewhere", x.dew(0, 1, -1), 5);
        for (int hour = 0; hour < 9; hour++) {
            Checks.is("dew 0 0 " + hour, x.dew(0, 0, hour), first[hour]);
            Checks.is("dew 0 1 " + hour, x.dew(0, 1, hour), third[hour]);
        }
        Checks.is("no column", x.dew(2, 0, 0), -1);
        Checks.is("no row", x.dew(0, 2, 0), -1);
        Checks.is("no column below", x.dew(-1, 0, 0), -1);
        Checks.is("no row below", x.dew(0, -1, 0), -1);
        Checks.is("no hour 9", x.dew(0, 0, 9), -1);
        Checks.is("no hour -2", x.dew(0, 0, -2), -1);
        x = Checks.told("field 2 by 2;dew 0 0 97;dew 1 0 94;dew 0 1 93;falls 5;mist 100;");
        Checks.is("99 at most", x.dew(0, 0, -1), 99);
        Checks.is("just 99", x.dew(1, 0, -1), 99);
        Checks.is("without a mist", x.dew(0, 1, -1), 98);
        x = Checks.told("field 2 by 2;dew 0 0 97;falls 0-5;");
        Checks.is("falls below 0", x.dew(0, 0, -1), 97);
    }

    private static void up() {
        DewWages x = Checks.told(ALONE.replace("up 0", "up 1"));
        Checks.is("up: best hour", x.up(0, 0), 0);
        Checks.is("up: most", x.up(0, 1), 20);
        Checks.is("up changes nothing", x.person(0, 2), 1);
        Checks.is("no what", x.up(0, 2), -1);
        Checks.is("no what below", x.up(0, -1), -1);
        Checks.is("nobody", x.up(1, 0), -1);
        Checks.is("nobody below", x.up(-1, 0), -1);
        x = Checks.told("field 2 by 2;person a at 0 0 up 3 sheet 9 owes 0;sun 0;takes if(have=0,hour%5,0);");
        Checks.is("up: of like ones the first", x.up(0, 0), 4);
        Checks.is("up: as much as once", x.up(0, 1), 4);
        x = Checks.told("field 2 by 2;dew 0 0 99;person a at 0 0 up 3 sheet 99 owes 0;sun 0;takes if(have=0,hour,0);");
        Checks.is("up: the last hour", x.up(0, 0), 8);
        Checks.is("up: eight at once", x.up(0, 1), 8);
        // b is there first from hour 2 on, as b is.
        x = Checks.told("field 2 by 2;dew 0 0 9;person b at 0 0 up 2 sheet 99 owes 0;person a at 0 0 up 3 sheet 99 owes 0;falls 0;sun 0;takes hour*hour*9;");
        Checks.is("up: ahead of b", x.up(1, 0), 0);
        Checks.is("up: what b would have", x.up(1, 1), 9);
        x.rise(0, 0);
        Checks.is("up: never ahead of b", x.up(1, 1), 0);
    }

    /** What he has counts, not what all have; the others are up as they are. */
    private static void upOfOneAmongOthers() {
        String b = "person b at 0 0 up 5 sheet 10 owes 0;";
        DewWages x = Checks.told("field 2 by 2;dew 0 0 10;falls 0;sun 0;person a at 0 0 up 8 sheet 4 owes 0;" + b);
        Checks.is("a's first hour", x.up(0, 0), 0);
        Checks.is("a's most", x.up(0, 1), 4);
        Checks.is("b's first hour", x.up(1, 0), 0);
        Checks.is("b's most, as long as a is up at 8", x.up(1, 1), 10);
        x = Checks.told("field 2 by 2;dew 0 0 20;falls 0;sun 1;takes 2;person a at 0 0 up 8 sheet 4 owes 0;" + b);
        // 20, and from HOUR 0 on one less each HOUR: he takes 4 of them by all HOURS up to 6 or 7, the first is told.
        Checks.is("a's first hour with the sun", x.up(0, 0), 0);
        Checks.is("a's most with the sun", x.up(0, 1), 4);
        Checks.is("a has less today", x.today(0, 8, 2), 2);
    }

    private static void home() {
        DewWages x = Checks.told("field 2 by 2;dew 1 1 40;person a at 0 0 up 0 sheet 60 owes 0;falls 0;sun 0;takes if(have<1,dew,0);");
        Checks.is("home: column", x.home(0, 0), 1);
        Checks.is("home: row by row", x.home(0, 1), 0);
        Checks.is("home: has", x.home(0, 2), 40);
        Checks.is("home changes nothing", x.person(0, 0), 0);
        Checks.is("no what", x.home(0, 3), -1);
        Checks.is("no what below", x.home(0, -1), -1);
        Checks.is("nobody", x.home(1, 0), -1);
        Checks.is("nobody below", x.home(-1, 0), -1);
        x = Checks.told("field 4 by 3;dew 3 2 40;dew 0 0 39;person a at 1 0 up 0 sheet 60 owes 0;falls 0;sun 0;takes if(have<1,dew,0);");
        Checks.is("home far away: column", x.home(0, 0), 3);
        Checks.is("home far away: row", x.home(0, 1), 1);
        Checks.is("home far away: has", x.home(0, 2), 40);
        x = Checks.told("field 2 by 2;person a at 1 1 up 0 sheet 60 owes 0;falls 0;");
        Checks.is("home: nothing anywhere: column", x.home(0, 0), 0);
        Checks.is("home: nothing anywhere: row", x.home(0, 1), 0);
        Checks.is("home: nothing anywhere: has", x.home(0, 2), 0);
    }

    private static void isWay(DewWages x, int person, int n, int has, int... steps) {
        Checks.is("way of " + n + ": has", x.way(person, n, -1), has);
        for (int k = 0; k < n; k++) {
            Checks.is("way of " + n + ": step " + k, x.way(person, n, k), steps[k]);
        }
        Checks.is("way of " + n + ": no more steps", x.way(person, n, n), -1);
        Checks.is("way of " + n + ": none below", x.way(person, n, -2), -1);
    }

    private static void way() {
        String text = "field 3 by 2;dew 1 0 5;dew 2 0 20;dew 0 1 9;person a at 0 0 up 2 sheet 99 owes 0;falls 0;sun 0;takes 99;";
        DewWages x = Checks.told(text);
        isWay(x, 0, 1, 9, 4);
        isWay(x, 0, 2, 25, 2, 2);
        isWay(x, 0, 3, 25, 0, 2, 2);
        isWay(x, 0, 4, 34, 4, 2, 3, 2);
        isWay(x, 0, 5, 34, 0, 4, 2, 3, 2);
        Checks.is("no way of 0", x.way(0, 0, -1), -1);
        Checks.is("no way of -1", x.way(0, -1, -1), -1);
        Checks.is("no way of 6", x.way(0, 6, -1), -1);
        Checks.is("nobody", x.way(1, 1, -1), -1);
        Checks.is("nobody below", x.way(-1, 1, -1), -1);
        isWay(Checks.told(text.replace("sheet 99", "sheet 15")), 0, 2, 15, 2, 2);
        isWay(Checks.told(text.replace("at 0 0", "at 2 1")), 0, 2, 25, 3, 1);
        // The sun of the hours ahead counts, and of those between.
        isWay(Checks.told(text.replace("sun 0", "sun 2")), 0, 2, 15, 2, 2);
        x = Checks.told(text.replace("up 2", "up 5"));
        Checks.is("up to hour 8", x.way(0, 4, -1), 34);
        Checks.is("beyond hour 8", x.way(0, 5, -1), -1);
        x = Checks.told(text.replace("up 2", "up 8"));
        Checks.is("hour 8 alone", x.way(0, 1, -1), 9);
        Checks.is("hour 9", x.way(0, 2, -1), -1);
    }

    private static void wayOfOthers() {
        String text = "field 3 by 2;dew 1 0 5;dew 2 0 20;dew 0 1 9;person a at 0 0 up 2 sheet 99 owes 0;"
            + "person b at 2 0 up 2 sheet 99 owes 0;falls 0;sun 0;takes 99;";
        DewWages x = Checks.told(text);
        isWay(x, 0, 2, 9, 0, 4);
        isWay(x, 0, 3, 14, 2, 1, 4);
        isWay(x, 1, 1, 20, 0);
        isWay(x, 1, 2, 25, 0, 1);
        // b goes first in hour 2 when he is the first one.
        x = Checks.told("field 2 by 2;dew 1 0 8;person b at 1 1 up 1 sheet 99 owes 0;person a at 0 0 up 1 sheet 99 owes 0;falls 0;sun 0;takes 5;");
        isWay(x, 1, 1, 3, 2);
        isWay(x, 0, 1, 5, 3);
        // The other one goes as he does when a leaves him something else: b, at 0 1, follows the most dew.
        x = Checks.told("field 3 by 2;dew 0 0 10;dew 1 0 7;dew 2 0 7;person a at 1 0 up 0 sheet 99 owes 0;person b at 0 1 up 0 sheet 99 owes 0;falls 0;sun 0;takes 10;");
        Checks.is("today a takes the ten", x.today(0, 0, 0), 0);
        Checks.is("today b stays", x.today(1, 0, 1), 1);
        isWay(x, 0, 2, 17, 1, 2);
        isWay(x, 0, 3, 24, 1, 2, 2);
    }

    private static void changed() {
        DewWages x = Checks.told("field 8 by 2;dew 0 0 40;person a at 0 0 up 0 sheet 5 owes 0;person b at 7 0 up 0 sheet 50 owes 0;falls 0;sun 0;");
        Checks.is("changed: first", x.changed(0), 0);
        Checks.is("changed: second", x.changed(1), 1);
        Checks.is("changed: wrung", x.changed(2), 40);
        Checks.is("no what", x.changed(3), -1);
        Checks.is("no what below", x.changed(-1), -1);
        Checks.is("changed changes nothing", x.person(0, 3), 5);
        x = Checks.told("field 8 by 2;dew 0 0 40;person a at 0 0 up 0 sheet 50 owes 0;person b at 7 0 up 0 sheet 5 owes 0;falls 0;sun 0;");
        for (int what = 0; what < 3; what++) {
            Checks.is("none is better", x.changed(what), -1);
        }
        x = Checks.told("field 8 by 2;dew 0 0 40;person a at 0 0 up 0 sheet 5 owes 0;falls 0;sun 0;");
        Checks.is("one alone", x.changed(0), -1);
        // Two pairs are as good: the first one is told.
        x = Checks.told("field 8 by 2;dew 4 0 40;person c at 0 1 up 0 sheet 9 owes 0;person a at 4 0 up 0 sheet 5 owes 0;person b at 7 0 up 0 sheet 9 owes 0;falls 0;sun 0;");
        Checks.is("the first pair: first", x.changed(0), 0);
        Checks.is("the first pair: second", x.changed(1), 1);
        Checks.is("the first pair: wrung", x.changed(2), 9);
        x = Checks.told("field 8 by 2;dew 4 0 40;person c at 0 1 up 0 sheet 8 owes 0;person a at 4 0 up 0 sheet 5 owes 0;person b at 7 0 up 0 sheet 9 owes 0;falls 0;sun 0;");
        Checks.is("a later pair: first", x.changed(0), 1);
        Checks.is("a later pair: second", x.changed(1), 2);
        Checks.is("a later pair: wrung", x.changed(2), 9);
    }

    /** What was asked for once is not told when it is so no more. */
    private static void isLearntAnew() {
        DewWages x = Checks.told(ALONE);
        ask(x, 9, 20, 22, 9);
        x.weave(0, 8);
        ask(x, 8, 8, 8, 8);
        x.undo();
        ask(x, 9, 20, 22, 9);
        x.days(1);
        ask(x, 5, 14, 14, 5);
        x.undo();
        ask(x, 9, 20, 22, 9);
        x.move(0, 1, 1);
        ask(x, 5, 22, 22, 5);
        x.rise(0, 1);
        ask(x, 0, 22, 18, 4);
        Checks.valley(x, ALONE);
        ask(x, 9, 20, 22, 9);
        Checks.on(x, Checks.checked(0, 0, 0, 0, 0, 0, 0, 0, 0, 3, 0, 0));
        ask(x, 3, 3, 3, 3);
    }

    private static void ask(DewWages x, int today, int up, int home, int way) {
        Checks.is("today then", x.today(0, 0, 2), today);
        Checks.is("up then", x.up(0, 1), up);
        Checks.is("home then", x.home(0, 2), home);
        Checks.is("way then", x.way(0, 1, -1), way);
    }

    /** TODAY is DAY 3 behind three DAYS: its laws are told with that DAY, by each of the six calls. */
    private static void isOfTheDayOfNow() {
        DewWages x = Checks.told("field 2 by 2;dew 0 0 99;dew 0 1 9;falls 0;sun if(hour=8,day,0);takes if(hour=0,day*4,0);"
            + "person a at 0 0 up 0 sheet 1 owes 0;person b at 1 1 up 1 sheet 90 owes 0;mist 100;");
        x.days(3);
        // Behind DAYS 0 to 2: a has wrung 0, 1 and 1, the suns have taken 0, 1 and 2 of each CELL.
        Checks.is("dew of now", x.cell(0, 0), 99 - 2 - 3);
        Checks.is("today's wringing", x.today(0, 8, 2), 1);
        Checks.is("dew ahead of hour 0, without a mist", x.dew(0, 0, -1), 94);
        Checks.is("dew behind the sun of day 3", x.dew(0, 0, 8), 94 - 1 - 3);
        Checks.is("b up in hour 0", x.up(1, 1), 6);
        Checks.is("b is to be up at", x.up(1, 0), 0);
        Checks.is("a's home, of like ones the first", x.home(0, 0) + x.home(0, 1), 0);
        Checks.is("a's way", x.way(0, 1, -1), 1);
        x.weave(0, 50);
        Checks.is("a's way with a bigger sheet", x.way(0, 1, -1), 12);
        x.weave(0, 1);
        Checks.is("b's sheet is better in a's hands: first", x.changed(0), 0);
        Checks.is("b's sheet is better in a's hands: second", x.changed(1), 1);
        Checks.is("b's sheet is better in a's hands: wrung", x.changed(2), 12);
        Checks.is("whom the dew tells of", x.tells(3), 2);
    }

    private static void firstAndLastHourOfUpAndHome() {
        DewWages x = Checks.told("field 2 by 2;dew 1 1 30;falls 0;sun 0;takes if(hour=0,dew,0);person a at 1 0 up 4 sheet 60 owes 0;");
        Checks.is("hour 0 alone: up", x.up(0, 0), 0);
        Checks.is("hour 0 alone: has", x.up(0, 1), 30);
        Checks.is("up at 4 no home is better", x.home(0, 2), 0);
        Checks.is("up at 4 the first home", x.home(0, 0) * 10 + x.home(0, 1), 0);
        x.rise(0, 0);
        Checks.is("up at 0, home: has", x.home(0, 2), 30);
        Checks.is("up at 0, home: column", x.home(0, 0), 1);
        Checks.is("up at 0, home: row", x.home(0, 1), 0);
        x = Checks.told("field 2 by 2;dew 1 1 30;falls 0;sun 0;takes if(hour=8,dew,0);person a at 0 0 up 4 sheet 60 owes 0;");
        Checks.is("two steps away, nowhere to go: up", x.up(0, 0), 0);
        Checks.is("two steps away, nowhere to go: has", x.up(0, 1), 0);
        Checks.is("hour 8 counts, home: column", x.home(0, 0), 1);
        Checks.is("hour 8 counts, home: row", x.home(0, 1), 0);
        Checks.is("hour 8 counts, home: has", x.home(0, 2), 30);
        x.move(0, 0, 1);
        x.rise(0, 8);
        Checks.is("hour 8 counts, up: of like ones the first", x.up(0, 0), 0);
        Checks.is("hour 8 counts, up: has", x.up(0, 1), 30);
        Checks.is("hour 8 counts: today", x.today(0, 8, 2), 30);
        Checks.is("hour 8 counts: not ahead of it", x.today(0, 7, 2), 0);
        // The last CELL can be the one home.
        x = Checks.told("field 3 by 3;dew 2 2 9;falls 0;sun 0;takes if(column=2 and row=2,if(have=0,1,9),0);person a at 0 0 up 8 sheet 60 owes 0;");
        Checks.is("a home beside the last cell: column", x.home(0, 0), 2);
        Checks.is("a home beside the last cell: row", x.home(0, 1), 1);
        Checks.is("a home beside the last cell: has", x.home(0, 2), 1);
        x = Checks.told("field 2 by 2;dew 1 1 9;dew 0 1 10;dew 1 0 10;falls 0;sun 0;takes if(dew=9,9,0);person a at 0 0 up 8 sheet 60 owes 0;");
        Checks.is("no home leads there", x.home(0, 2), 0);
        x = Checks.told("field 3 by 3;dew 2 2 9;dew 0 0 5;falls 0;sun 0;takes if(dew=9,9,0);person a at 0 0 up 8 sheet 60 owes 0;person b at 2 1 up 8 sheet 1 owes 0;person c at 2 1 up 8 sheet 1 owes 0;");
        Checks.is("a home for the first one: has", x.home(0, 2), 9);
        Checks.is("a home for the second one, behind the first: has", x.home(1, 2), 1);
        Checks.is("a home for the third one, behind the second: has", x.home(2, 2), 0);
    }

    /** In a WAY each HOUR is told as it is: in takes, and in the sun between. */
    private static void wayHourByHour() {
        String text = "field 2 by 2;dew 0 0 99;falls 0;person a at 0 0 up 3 sheet 99 owes 0;";
        DewWages x = Checks.told(text + "sun 0;takes hour*hour;");
        int has = 0;
        for (int n = 1; n <= 5; n++) {
            has += (n + 2) * (n + 2);
            Checks.is("way of " + n + " by hours", x.way(0, n, -1), Math.min(99, has));
        }
        x = Checks.told(text + "sun if(hour=2,9,if(hour=3,20,if(hour=5,50,0)));takes 1;");
        isWay(x, 0, 5, 5, 0, 0, 0, 0, 0);
        x = Checks.told(text + "sun if(hour=2,9,if(hour=3,20,if(hour=5,50,0)));takes dew;");
        isWay(x, 0, 1, 90, 0);
        x = Checks.told(text + "sun if(hour=2,9,if(hour=3,20,if(hour=5,50,0)));takes if(hour=6,dew,0);");
        isWay(x, 0, 3, 0, 0, 0, 0);
        isWay(x, 0, 4, 20, 0, 0, 0, 0);
        x = Checks.told(text + "sun if(hour=2,9,if(hour=3,20,if(hour=5,50,0)));takes if(hour=5,dew,0);");
        isWay(x, 0, 4, 70, 0, 0, 0, 0);
        // have is what he has wrung on this way till then.
        x = Checks.told(text + "sun 0;takes have*2+1;");
        isWay(x, 0, 4, 40, 0, 0, 0, 0);
        x = Checks.told(text.replace("sheet 99", "sheet 30") + "sun 0;takes sheet/4;");
        isWay(x, 0, 5, 30, 0, 0, 0, 0, 0);
    }

    private static void wayWithOthersUpLater() {
        String laws = "field 2 by 2;dew 0 0 10;falls 0;sun 0;takes 4;";
        DewWages x = Checks.told(laws + "person b at 0 0 up 3 sheet 99 owes 0;person a at 0 0 up 2 sheet 99 owes 0;");
        isWay(x, 1, 1, 4, 0);
        isWay(x, 1, 2, 6, 0, 0);
        isWay(x, 1, 3, 6, 0, 0, 0);
        x = Checks.told(laws + "person a at 0 0 up 2 sheet 99 owes 0;person b at 0 0 up 3 sheet 99 owes 0;");
        isWay(x, 0, 1, 4, 0);
        isWay(x, 0, 2, 8, 0, 0);
        isWay(x, 0, 3, 8, 0, 0, 0);
        // The sun of each HOUR comes behind all, those behind him too: 10, 6, 2 and the half of it.
        x = Checks.told("field 2 by 2;dew 0 0 10;falls 0;sun dew/2;takes 4;person a at 0 0 up 0 sheet 99 owes 0;person b at 0 0 up 0 sheet 99 owes 0;");
        isWay(x, 0, 2, 5, 0, 0);
        // Who is up behind the way's last HOUR takes nothing of it.
        x = Checks.told(laws + "person a at 0 0 up 2 sheet 99 owes 0;person b at 0 0 up 4 sheet 99 owes 0;");
        isWay(x, 0, 3, 10, 0, 0, 0);
        // Who was up ahead of him has wrung already.
        x = Checks.told(laws + "person a at 0 0 up 2 sheet 99 owes 0;person b at 0 0 up 1 sheet 3 owes 0;");
        isWay(x, 0, 3, 7, 0, 0, 0);
        isWay(x, 1, 1, 3, 0);
        isWay(x, 1, 5, 3, 0, 0, 0, 0, 0);
        // One answer is not told for the other PERSON, or for other HOURS.
        Checks.is("a's again", x.way(0, 1, -1), 4);
        Checks.is("b's again", x.way(1, 1, -1), 3);
        Checks.is("a's of two", x.way(0, 2, -1), 7);
        Checks.is("a's of one", x.way(0, 1, -1), 4);
    }

    private static void wayAtTheEdges() {
        // Neither a row's end nor its begin leads to another row.
        DewWages x = Checks.told("field 3 by 3;dew 2 0 50;dew 0 2 60;falls 0;sun 0;person a at 0 1 up 0 sheet 99 owes 0;person b at 2 1 up 0 sheet 99 owes 0;");
        isWay(x, 0, 1, 9, 4);
        isWay(x, 1, 1, 9, 3);
        x = Checks.told("field 3 by 3;dew 2 0 50;dew 0 2 60;falls 0;sun 0;person a at 0 1 up 0 sheet 99 owes 0;person b at 2 1 up 0 sheet 99 owes 0;takes if(row=1,0,99);");
        isWay(x, 0, 1, 60, 4);
        isWay(x, 1, 1, 50, 3);
        for (int column = 0; column < 2; column++) {
            for (int row = 0; row < 2; row++) {
                x = Checks.told("field 2 by 2;falls 0;person a at " + column + " " + row + " up 4 sheet 9 owes 0;");
                isWay(x, 0, 5, 0, 0, 0, 0, 0, 0);
                x = Checks.told("field 2 by 2;dew " + (1 - column) + " " + row + " 3;falls 0;sun 0;person a at " + column + " " + row + " up 8 sheet 9 owes 0;");
                isWay(x, 0, 1, 3, column == 0 ? 2 : 1);
                x = Checks.told("field 2 by 2;dew " + column + " " + (1 - row) + " 3;falls 0;sun 0;person a at " + column + " " + row + " up 8 sheet 9 owes 0;");
                isWay(x, 0, 1, 3, row == 0 ? 4 : 3);
            }
        }
        // Dew everywhere, and who has wrung once wrings no more: no step leads to a CELL without dew beside the field.
        for (int place = 0; place < 9; place++) {
            x = Checks.told("field 3 by 3;falls 20;sun 0;takes if(have>0,0,if(hour=8,9,1));person a at " + place % 3 + " " + place / 3
                + " up 7 sheet 9 owes 0;");
            isWay(x, 0, 1, 1, 0);
            isWay(x, 0, 2, 1, 0, 0);
        }
        for (int up = 0; up < 9; up++) {
            x = Checks.told("field 2 by 2;dew 0 0 99;falls 0;sun 0;person a at 0 0 up " + up + " sheet 99 owes 0;");
            for (int n = -1; n < 8; n++) {
                boolean can = n >= 1 && n <= 5 && up + n <= 9;
                Checks.is("up " + up + ", a way of " + n, x.way(0, n, -1), can ? 9 * n : -1);
                Checks.is("up " + up + ", a way of " + n + ": its last step", x.way(0, n, n - 1), can ? 0 : -1);
                Checks.is("up " + up + ", a way of " + n + ": no step", x.way(0, n, n), -1);
            }
        }
    }

    /** Three, four and six people: each pair is tried by itself, with all as it is. */
    private static void changedPairByPair() {
        String far = "field 8 by 2;falls 0;sun 0;takes 99;";
        // a's place has 90, b's 50, c's 20; sheets 10, 40, 80: a with c is best.
        DewWages x = Checks.told(far + "dew 0 0 90;dew 3 0 50;dew 7 0 20;person a at 0 0 up 0 sheet 10 owes 0;"
            + "person b at 3 0 up 0 sheet 40 owes 0;person c at 7 0 up 0 sheet 80 owes 0;");
        isChanged(x, 0, 2, 80 + 40 + 10);
        // All the dew in hour 0 alone.
        x = Checks.told(far.replace("takes 99", "takes if(hour=0,99,0)") + "dew 0 0 90;dew 3 0 50;dew 7 0 20;person a at 0 0 up 0 sheet 10 owes 0;"
            + "person b at 3 0 up 0 sheet 40 owes 0;person c at 7 0 up 0 sheet 80 owes 0;");
        isChanged(x, 0, 2, 80 + 40 + 10);
        // b with c and b with d are as good: c's sheet, or d's in b's hands takes 50, and what is left of 60 another one.
        x = Checks.told(far + "dew 0 0 5;dew 3 0 50;dew 7 0 60;person a at 0 0 up 0 sheet 10 owes 0;"
            + "person b at 3 0 up 0 sheet 20 owes 0;person c at 7 0 up 8 sheet 60 owes 0;person d at 7 1 up 7 sheet 99 owes 0;");
        isChanged(x, 1, 2, 5 + 50 + 60);
        // As much as without is not more.
        x = Checks.told(far + "dew 0 0 90;dew 7 0 90;person a at 0 0 up 0 sheet 10 owes 0;person b at 7 0 up 0 sheet 80 owes 0;");
        isChanged(x, -1, -1, -1);
        x = Checks.told(far + "dew 0 0 90;dew 7 0 79;person a at 0 0 up 0 sheet 10 owes 0;person b at 7 0 up 0 sheet 80 owes 0;");
        isChanged(x, 0, 1, 90);
        Checks.is("without a change", x.days(1), 89);
        x = Checks.told(far + "dew 0 0 90;person a at 0 0 up 0 sheet 10 owes 0;person b at 7 0 up 0 sheet 10 owes 0;");
        isChanged(x, -1, -1, -1);
        isChanged(Checks.told(far), -1, -1, -1);
        // Of six the last pair.
        x = Checks.told(far + "dew 7 1 60;person a at 0 0 up 0 sheet 5 owes 0;person b at 0 1 up 0 sheet 5 owes 0;person c at 1 0 up 0 sheet 5 owes 0;"
            + "person d at 1 1 up 0 sheet 5 owes 0;person e at 2 1 up 0 sheet 30 owes 0;person f at 7 1 up 0 sheet 2 owes 0;");
        isChanged(x, 4, 5, 30);
    }

    private static void isChanged(DewWages x, int first, int second, int wrung) {
        Checks.is("changed: first", x.changed(0), first);
        Checks.is("changed: second", x.changed(1), second);
        Checks.is("changed: wrung", x.changed(2), wrung);
        Checks.is("changed: no other", x.changed(3), -1);
    }

    private static void changedIsLearntAnew() {
        DewWages x = Checks.told("field 8 by 2;falls 0;sun 0;takes 99;dew 0 0 90;person a at 0 0 up 0 sheet 10 owes 0;person b at 7 0 up 0 sheet 80 owes 0;");
        isChanged(x, 0, 1, 80);
        x.weave(0, 80);
        isChanged(x, -1, -1, -1);
        x.undo();
        isChanged(x, 0, 1, 80);
        x.move(1, 1, 0);
        isChanged(x, -1, -1, -1);
        x.undo();
        x.days(1);
        isChanged(x, 0, 1, 80);
        x.days(8);
        isChanged(x, -1, -1, -1);
    }
}
