/** How many there can be of each thing, all at once: a VALLEY as full as one can be. */
public final class MostTest {
    public static void main(String[] args) {
        fullValley();
        fullTape();
        fullSeen();
        fullImage();
        fullKeptAndActs();
        smallestValley();
        fiveHundredAndTwelveCalls();
        Checks.finish();
    }

    private static String person(int p) {
        return "person " + (char) ('a' + p) + "bcdef at 7 " + (p + 2) + " up " + p + " sheet 99 owes 99;";
    }

    /** 8 by 8 CELLS of 99, six people, eighty STATEMENTS. */
    private static String full() {
        StringBuilder b = new StringBuilder("field 8 by 8;");
        for (int place = 0; place < 64; place++) {
            b.append("dew ").append(place % 8).append(' ').append(place / 8).append(" 99;");
        }
        for (int p = 0; p < 6; p++) {
            b.append(person(p));
        }
        return b + "falls 9999;sun 0;takes 9999;mist 100;" + "mist 99;".repeat(5);
    }

    private static void fullValley() {
        DewWages x = new DewWages();
        Checks.is("eighty statements", Checks.valley(x, full()), 80);
        int[] due = {8, 8, 6, 0, 64 * 99, 0, 0, 0, 0, 1};
        for (int what = 0; what < due.length; what++) {
            Checks.is("full: has " + what, x.has(what), due[what]);
        }
        for (int p = 0; p < 6; p++) {
            int[] he = {7, p + 2, p, 99, 99, 0};
            for (int what = 0; what < 6; what++) {
                Checks.is("full: person " + p + " " + what, x.person(p, what), he[what]);
                Checks.is("full: letter " + p + " " + what, x.letter(p, what), what == 0 ? p + 1 : what + 1);
            }
            Checks.is("full: he wrings all that his sheet holds", x.today(p, 8, 2), 99);
            Checks.is("full: not ahead of his hour", p == 0 ? 0 : x.today(p, p - 1, 2), 0);
            Checks.is("full: in his hour", x.today(p, p, 2), 99);
            Checks.is("full: best hour", x.up(p, 0) * 100 + x.up(p, 1), 99);
            Checks.is("full: best home", x.home(p, 0) * 1000 + x.home(p, 1) * 100 + x.home(p, 2), 99);
            Checks.is("full: best way", x.way(p, 9 - p > 5 ? 5 : 9 - p, -1), 99);
            Checks.is("full: never dry", x.dry(p), -1);
            Checks.is("full: purse in forty days", x.purse(p, 40), 0);
        }
        Checks.is("full: no person 6", x.person(6, 0), -1);
        Checks.is("full: no column 8", x.cell(8, 0), -1);
        Checks.is("full: no row 8", x.cell(0, 8), -1);
        Checks.is("full: the last cell", x.cell(7, 7), 99);
        Checks.is("full: nobody is better off", x.changed(0), -1);
        Checks.is("full: 64 sets", x.walkers(0), 64);
        Checks.is("full: wrung in forty days", x.days(40), 40 * 6 * 99);
        Checks.is("full: later, where nobody goes", x.later(0, 0, 40), 99);
    }

    private static void fullTape() {
        DewWages x = new DewWages();
        String text = full();
        text += " ".repeat(1600 - text.length());
        Checks.is("1600 bytes", Checks.valley(x, text), 80);
        String longest = "field 8 by 8;falls 1" + "+1".repeat(200) + "-1".repeat(389);
        longest += "-column".repeat((1599 - longest.length()) / 7);
        longest += " ".repeat(1599 - longest.length()) + ";";
        Checks.is("the longest text", longest.length(), 1600);
        Checks.is("a sum of many parts", Checks.valley(x, longest), 2);
        Checks.is("a sum of many parts: below 0", x.dew(7, 7, -1), 0);
        StringBuilder b = new StringBuilder("field 2 by 2;takes if(");
        while (b.length() < 1560) {
            b.append("not all or ");
        }
        String tests = b + "all,7,8);dew 0 0 99;";
        Checks.is("a test of many parts", Checks.valley(x, tests + "person a at 0 0 up 0 sheet 99 owes 0;"), -1);
        tests = tests.replaceFirst("(not all or ){4}", "") + "person a at 0 0 up 0 sheet 99 owes 0;";
        Checks.is("a test of many parts, 1600 at most", tests.length() <= 1600, true);
        Checks.is("a test of many parts", Checks.valley(x, tests), 4);
        Checks.is("the last part holds", x.today(0, 0, 2), 7);
    }

    private static void fullSeen() {
        DewWages x = Checks.told(full());
        int[] rows = new int[64];
        for (int i = 0; i < 16; i++) {
            rows[4 * i] = 8;
            rows[4 * i + 1] = 7;
            rows[4 * i + 2] = 2 + i % 6;
            rows[4 * i + 3] = i % 6 < 3 ? 0 : 99;
        }
        Checks.is("16 rows", Checks.see(x, rows), 16);
        Checks.is("16 rows seen", x.has(7), 16);
        Checks.is("the first three", x.walkers(0) * 100 + x.walkers(1), 107);
        rows = java.util.Arrays.copyOf(rows, 68);
        Checks.is("17 rows", Checks.see(x, rows), -1);
        Checks.is("16 rows seen still", x.has(7), 16);
        int[] everybody = new int[24];
        for (int i = 0; i < 6; i++) {
            everybody[4 * i] = i;
            everybody[4 * i + 1] = 7;
            everybody[4 * i + 2] = 2 + i;
        }
        Checks.see(x, everybody);
        Checks.is("everybody", x.walkers(0) * 100 + x.walkers(1), 163);
    }

    private static void fullImage() {
        DewWages x = Checks.told(full());
        int[] row = new int[102];
        row[0] = 3;
        row[1] = 231;
        for (int place = 0; place < 64; place++) {
            row[2 + place] = 99 - place;
        }
        for (int p = 0; p < 6; p++) {
            int[] he = {p, 7 - p, 8 - p, 99 - p, 3, 231 - p};
            System.arraycopy(he, 0, row, 66 + 6 * p, 6);
        }
        Checks.is("on", Checks.on(x, Checks.checked(row)), true);
        Checks.is("day 999", x.has(3), 999);
        Checks.is("all purses", x.has(5), 6 * 999 - 15);
        Checks.is("103 bytes", x.image(), 103);
        int[] due = Checks.checked(row);
        for (int k = 0; k < 103; k++) {
            Checks.is("octet " + k, x.octet(k), due[k]);
        }
        Checks.is("octet 103", x.octet(103), -1);
        Checks.is("one byte more", Checks.on(x, java.util.Arrays.copyOf(due, 104)), false);
        Checks.is("one byte less", Checks.on(x, java.util.Arrays.copyOf(due, 102)), false);
        for (int place = 0; place < 64; place++) {
            Checks.is("cell " + place, x.cell(place % 8, place / 8), 99 - place);
        }
        for (int p = 0; p < 6; p++) {
            int[] he = {p, 7 - p, 8 - p, 99 - p, 99, 999 - p};
            for (int what = 0; what < 6; what++) {
                Checks.is("he then " + p + " " + what, x.person(p, what), he[what]);
            }
        }
    }

    private static void fullKeptAndActs() {
        DewWages x = Checks.told(full());
        for (int i = 1; i <= 24; i++) {
            Checks.is("forty days", x.days(40), 40 * 6 * 99);
            Checks.is("forty kept", x.has(6), 40);
            Checks.is("acts, twenty at most", x.has(8), Math.min(20, i));
            Checks.is("the oldest kept", x.kept(0, 0), 40 * i - 40);
            Checks.is("the latest kept", x.kept(39, 0), 40 * i - 1);
            Checks.is("the latest kept: wrung", x.kept(39, 1), 6 * 99);
        }
        x.days(39);
        Checks.is("day 999", x.has(3), 999);
        for (int i = 0; i < 20; i++) {
            Checks.is("undo " + i, x.undo(), true);
        }
        Checks.is("no more", x.undo(), false);
        Checks.is("twenty acts less", x.has(3), 200);
        Checks.is("forty kept still", x.has(6), 40);
        Checks.is("the oldest of them", x.kept(0, 0), 160);
        // Six dry ones in a DAY.
        x = Checks.told(full().replace("takes 9999", "takes if(have<98,98-have,0)"));
        x.days(1);
        Checks.is("all of them dry", x.kept(0, 2), 6);
        Checks.is("all of them wring", x.kept(0, 1), 6 * 98);
        // A purse holds 999 at most, of each PERSON his own.
        x = Checks.told(full().replace("owes 99", "owes 0"));
        x.days(11);
        Checks.is("purses of 999", x.has(5), 6 * 999);
        x.days(1);
        Checks.is("purses of 999 still", x.has(5), 6 * 999);
    }

    private static void smallestValley() {
        DewWages x = Checks.told("field 2 by 2;");
        Checks.is("one statement", x.has(0) * 10 + x.has(1), 22);
        Checks.is("nobody", x.has(2), 0);
        Checks.is("an image", x.image(), 7);
        Checks.is("a day", x.days(1), 0);
        Checks.is("kept", x.kept(0, 1) + x.kept(0, 2), 0);
        Checks.is("nobody changes", x.changed(0), -1);
        Checks.is("the empty set", x.walkers(0) * 10 + x.walkers(1), 10);
        x = Checks.told("field 2 by 2;person a at 1 1 up 0 sheet 1 owes 0;");
        Checks.is("the smallest sheet", x.days(1), 1);
        Checks.is("two sets", x.walkers(0), 2);
    }

    /** The 512th call is answered as the first one. */
    private static void fiveHundredAndTwelveCalls() {
        DewWages x = new DewWages();
        x.feed(0x6669656c, 0x64203220, 0x62792032, 0x3b66616c, 0x6c732039);
        x.feed(0x393b7065, 0x72736f6e, 0x20612061, 0x74203020, 0x30207570);
        x.feed(0x20302073, 0x68656574, 0x20393920, 0x6f776573, 0x20393b20);
        Checks.is("valley", x.valley(), 3);
        for (int call = 5; call <= 509; call += 2) {
            Checks.is("call " + call, x.weave(0, 1 + call % 3), true);
            Checks.is("call " + (call + 1), x.person(0, 3), 1 + call % 3);
        }
        Checks.is("call 511", x.undo(), true);
        Checks.is("call 512", x.dew(1, 1, -1), 99);
    }
}
