/** Promises 4 to 9: valley, its faults, has, letter, cell, person. */
public final class ValleyTest {
    private static final String F = "field 2 by 2;";
    private static final String A = "person a at 0 0 up 0 sheet 1 owes 1;";

    public static void main(String[] args) {
        accepted();
        isAsAtFirst();
        allStaysWithFault();
        whatActsChangedStaysWithFault();
        nothingIsLeftOfTheValleyBefore();
        mist();
        texts();
        missingBlanks();
        names();
        numbers();
        sums();
        depth();
        counts();
        has();
        letter();
        cellsAndPeople();
        Checks.finish();
    }

    private static void good(String text, int statements) {
        DewWages x = new DewWages();
        Checks.is("valley of " + text, Checks.valley(x, text), statements);
        Checks.is("fault of " + text, x.fault(0), 0);
        Checks.is("place of " + text, x.fault(1), -1);
    }

    private static void bad(String text, int kind, int place) {
        DewWages x = new DewWages();
        Checks.is("valley of " + text, Checks.valley(x, text), -1);
        Checks.is("fault of " + text, x.fault(0), kind);
        Checks.is("place of " + text, x.fault(1), place);
        Checks.is("other faults of " + text, x.fault(2), -1);
        Checks.is("fault below of " + text, x.fault(-1), -1);
        Checks.is("refused: " + text, x.status(1), 1);
        Checks.is("no cells by " + text, x.has(0), 0);
    }

    private static String repeat(String s, int n) {
        StringBuilder b = new StringBuilder();
        for (int i = 0; i < n; i++) {
            b.append(s);
        }
        return b.toString();
    }

    private static void accepted() {
        good(F, 1);
        good("field 8 by 2;", 1);
        good(" \n field\n2 by\n\n8 ; \n", 1);
        good("field 0002 by 2;", 1);
        good(F + A + "falls 1;sun 1;takes 1;mist 0;mist 100;dew 1 1 99;dew 1 1 0;", 9);
        good(F + "takes have+sheet+hour+column+row+dew+day;sun hour;falls day;", 4);
        good(F + "takes if(not[all and 1<2 or 3=4],min(1,2),max(3,9999));", 2);
    }

    private static void isAsAtFirst() {
        DewWages x = Checks.told(F + "dew 0 0 10;person a at 0 0 up 0 sheet 30 owes 7;mist 100;falls 3;");
        x.seed(5);
        x.days(3);
        x.rise(0, 4);
        Checks.see(x, 0, 0, 0, 0);
        x.image();
        Checks.is("the tape goes", Checks.valley(x, "field 3 by 2;dew 2 1 9;" + A), 3);
        Checks.is("nothing is left on the tape", x.end(1), false);
        int[] due = {3, 2, 1, 0, 9, 0, 0, 0, 0, 5};
        for (int what = 0; what < due.length; what++) {
            Checks.is("a new valley: has " + what, x.has(what), due[what]);
        }
        Checks.is("a new valley: up", x.person(0, 2), 0);
        Checks.is("a new valley: purse", x.person(0, 5), 0);
        Checks.is("a new valley: falls 5 untold", x.dew(0, 0, -1), 5);
        Checks.is("a new valley: no undo", x.undo(), false);
        Checks.is("a new valley: nothing kept", x.kept(0, 0), -1);
        Checks.is("a new valley: all sets", x.walkers(0), 2);
        x.seed(1);
        Checks.is("a new valley: no mist", x.chance(40), 0);
        Checks.is("the latest image is there still", x.octet(1), 3);
    }

    private static void allStaysWithFault() {
        DewWages x = Checks.told(F + "dew 0 0 90;person a at 0 1 up 2 sheet 30 owes 7;mist 19;falls 3;sun 0;takes 4;");
        x.days(2);
        Checks.see(x, 0, 0, 0, 16);
        Checks.is("a fault", Checks.valley(x, "field 3 by 3;person bb at 1 1 up 1 sheet 9 owes 9;dew 0 0 3;takes 1;mist 5;x"), -1);
        Checks.is("a fault: the tape goes", x.end(1), false);
        Checks.is("a fault: columns stay", x.has(0), 2);
        Checks.is("a fault: people stay", x.letter(0, 0), 1);
        Checks.is("a fault: names stay", x.letter(0, 1), 0);
        Checks.is("a fault: day stays", x.has(3), 2);
        Checks.is("a fault: kept stay", x.has(6), 2);
        Checks.is("a fault: seen stays", x.has(7), 1);
        Checks.is("a fault: acts stay", x.has(8), 1);
        Checks.is("a fault: owes stays", x.person(0, 4), 7);
        Checks.is("a fault: falls stays", x.dew(1, 1, -1), x.cell(1, 1) + 3);
        Checks.is("a fault: sun stays", x.dew(1, 1, 0), x.cell(1, 1) + 3);
        Checks.is("a fault: takes stays", x.today(0, 2, 2), 4);
        x.seed(1);
        Checks.is("a fault: mist stays", x.chance(1), 1);
        Checks.is("a fault is told till the next text", x.fault(0), 1);
        Checks.valley(x, F);
        Checks.is("no fault any more", x.fault(0), 0);
        Checks.is("no place any more", x.fault(1), -1);
    }

    /** A VALLEY in the middle of its DAYS. */
    private static DewWages inTheMiddle() {
        DewWages x = Checks.told("field 3 by 2;dew 0 0 40;person a at 0 0 up 0 sheet 30 owes 3;person b at 2 1 up 1 sheet 9 owes 99;"
            + "mist 50;falls 4+day;sun hour/4;takes 5+day;");
        x.days(3);
        x.rise(0, 2);
        x.move(1, 1, 1);
        x.weave(1, 70);
        x.image();
        x.chance(1);
        x.seed(123);
        Checks.see(x, 0, 0, 0, 0, 1, 1, 1, 1);
        return x;
    }

    /** With a FAULT each answer is as it was, and each ACT can be undone still. */
    private static void whatActsChangedStaysWithFault() {
        for (String text : new String[] {"", "field 2 by 2", "field 8 by 8;falls 1;falls 1;", "field 2 by 2;person z at 9 9",
            "field 2 by 2;mist 7;takes ((((((((1", "field 2 by 2;sun 3;dew 0 0 5;" + A + A}) {
            DewWages x = inTheMiddle();
            long before = Checks.answers(x);
            Checks.is("refused: " + text, Checks.valley(x, text), -1);
            Checks.is("all stays with " + text, Checks.answers(x), before);
            Checks.is("the latest image stays with " + text, x.octet(1), 3);
            Checks.is("five acts", x.has(8), 5);
            Checks.is("the day is undone", x.undo() && x.has(3) == 3, true);
            Checks.is("the sheet is undone", x.undo() && x.person(1, 3) == 9, true);
            Checks.is("the gate is undone", x.undo() && x.person(1, 0) == 2, true);
            Checks.is("the hour is undone", x.undo() && x.person(0, 2) == 0, true);
            Checks.is("the days are undone", x.undo() && x.has(3) == 0 && x.has(4) == 40, true);
        }
    }

    /** A VALLEY told behind another one answers as on a new object. */
    private static void nothingIsLeftOfTheValleyBefore() {
        String[] texts = {"field 4 by 5;dew 3 4 99;person abcdef at 3 4 up 8 sheet 99 owes 99;person b at 1 1 up 0 sheet 5 owes 1;"
            + "falls 9;sun 3;takes 1;mist 100;", "field 2 by 3;person x at 0 1 up 2 sheet 4 owes 6;", F,
            "field 3 by 2;falls day;person a at 2 1 up 0 sheet 9 owes 0;person b at 0 0 up 0 sheet 9 owes 0;person c at 1 1 up 0 sheet 1 owes 9;"};
        for (String before : texts) {
            for (String text : texts) {
                DewWages x = Checks.told(before);
                x.days(5);
                x.rise(0, 7);
                x.weave(0, 33);
                x.move(0, 0, 0);
                x.chance(2);
                Checks.see(x, 0, 0, 0, 1);
                Checks.answers(x);
                x.seed(1);
                Checks.valley(x, text);
                Checks.is(text + " behind " + before, Checks.answers(x), Checks.answers(Checks.told(text)));
                Checks.is("no undo behind " + before, x.undo(), false);
            }
        }
    }

    /** Below mist is a DRAW of 0 when mist is 1, and none when it is 0 or untold. */
    private static void mist() {
        String[] texts = {F, F + "mist 0;", F + "mist 1;", F + "mist 100;mist 3;mist 0;", F + "mist 0;mist 100;"};
        int[] due = {0, 0, 1, 0, 1};
        for (int i = 0; i < texts.length; i++) {
            DewWages x = Checks.told(F + "mist 100;");
            Checks.valley(x, texts[i]);
            x.seed(seedOfDrawZero());
            Checks.is("mists by a draw of 0, " + texts[i], x.chance(1), due[i]);
        }
    }

    private static int seedOfDrawZero() {
        long seed = 0;
        while ((1103515245L * seed + 12345L & 0x7fffffffL) / 64 % 100 != 0) {
            seed++;
        }
        return (int) seed;
    }

    private static void texts() {
        bad("", 1, 0);
        bad("  \n", 1, 3);
        bad(";", 1, 0);
        bad("dew 0 0 1;", 1, 0);
        bad("field", 1, 5);
        bad("field ", 1, 6);
        bad("fiel 2 by 2;", 1, 0);
        bad("fields 2 by 2;", 1, 0);
        bad("Field 2 by 2;", 1, 0);
        bad("field2 by 2;", 1, 5);
        bad("field 2by 2;", 1, 7);
        bad("field 2 by2;", 1, 10);
        bad("field 2 by 2", 1, 12);
        bad("field 2 by 2 ", 1, 13);
        bad("field 2 by 2;;", 1, 13);
        bad("field 2 by 2 3;", 1, 13);
        bad("field 2 up 2;", 1, 8);
        bad("field a by 2;", 1, 6);
        bad(F + "field 2 by 2;", 1, 13);
        bad(F + "by", 1, 13);
        bad(F + "a", 1, 13);
        bad(F + "7", 1, 13);
        bad(F + "+", 1, 13);
        bad(F + "\t" + "mist 1;", 1, 13);
        bad(F + "\r\n", 1, 13);
        bad(F + "mist", 1, 17);
        bad(F + "mist ;", 1, 18);
        bad(F + "mist 1", 1, 19);
        bad(F + "mist 1,", 1, 19);
        bad(F + "mist -1;", 1, 18);
        bad(F + "mist \u00e9", 1, 18);
        bad(F + "dew 0 0;", 1, 20);
        bad(F + "dew 0,0,1;", 1, 18);
        bad(F + "abcdefg", 1, 19);
        bad(F + "mist abcdefgh", 1, 24);
        bad("fieldby 2 by 2;", 1, 6);
        bad("field 2 by 2 abcdefghij", 1, 19);
        bad("12345", 1, 4);
        bad(F + "123456", 1, 17);
        bad(F + "mist 00001;", 1, 22);
        bad(F + "dew 0 0 99999;", 1, 25);
        bad("field 12345 by 2;", 1, 10);
        bad(repeat(";", 1600), 1, 0);
        bad(F + repeat("+", 1587), 1, 13);
        bad(F + "takes 1" + repeat("+1", 790), 1, 1600);
        good(F + "takes 1" + repeat("+1", 789) + " ;", 2);
        good(F + repeat(" ", 1587), 1);
        Checks.is("a long sum", Checks.told(F + "falls 1" + repeat("+1", 80) + repeat("-1", 700) + "+650;").dew(0, 0, -1), 31);
    }

    /** A word and a number side by side: the later one's first byte, however long it goes on. */
    private static void missingBlanks() {
        bad("field 2sevenab ", 1, 7);
        bad("field 2sevenabcdefghij", 1, 7);
        bad("field 2abcdef", 1, 7);
        bad("field12345 by 2;", 1, 5);
        bad("field123456789", 1, 5);
        bad("field 2 by12345", 1, 10);
        bad("field 2 by 2sevenab", 1, 12);
        bad(F + "mist12345;", 1, 17);
        bad(F + "mist 1sevenab", 1, 19);
        bad(F + "dew 0 0 99sevenab", 1, 23);
        bad(F + "person a12345", 1, 21);
        bad(F + "person abcdef12345", 1, 26);
        bad(F + "person a at 0sevenab", 1, 26);
        bad(F + "takes 1sevenab", 1, 20);
        bad(F + "takes dew12345", 1, 22);
        bad(F + "takes if(not12345<1,1,2)", 1, 25);
        bad(F + "takes if(1<2or all,1,2)", 1, 25);
        // Behind a sign or a blank nothing is missing: the 7th letter, the 5th digit.
        bad("field 2 sevenab", 1, 14);
        bad("field 2;sevenab", 1, 7);
        bad(F + "sevenab", 1, 19);
        bad(F + "takes 1+sevenab", 1, 27);
        bad(F + "takes dew*12345", 1, 27);
        bad(F + "mist\n12345", 1, 22);
        // A fault of the word or number ahead of it comes first.
        bad("field 9sevenab", 4, 6);
        bad("fiel12345", 1, 0);
        bad("field 2 2sevenab", 1, 8);
        bad("sevenab12345", 1, 6);
        bad("field 12345sevenab", 1, 10);
        bad(F + A + "person a12345", 2, 13 + 36 + 7);
        bad(F + A + "person up12345", 1, 13 + 36 + 7);
    }

    private static void names() {
        String p = F + "person ";
        bad(F + "person", 1, 19);
        bad(p + ";", 1, 20);
        bad(p + "1 at", 1, 20);
        bad(p + "a1 at", 1, 21);
        bad(p + "aB at", 1, 21);
        bad(p + "abcdefg at", 1, 26);
        good(p + "abcdef at 0 0 up 0 sheet 1 owes 0;", 2);
        for (String own : ("field by dew person at up sheet owes falls sun takes mist column row day hour have if or and "
            + "not all min max").split(" ")) {
            bad(p + own + " at 0 0 up 0 sheet 1 owes 0;", 1, 20);
        }
        good(p + "fiel at 0 0 up 0 sheet 1 owes 0;person fields at 0 0 up 0 sheet 1 owes 0;person z at 1 1 up 8 sheet 99 owes 99;", 4);
        bad(F + A + "person a", 2, 56);
        bad(F + A + "person\n\na at", 2, 57);
        good(F + A + "person aa at 0 0 up 0 sheet 1 owes 1;", 3);
        bad(F + A + A.replace(" a ", " b ") + "person b at", 2, 49 + 36 + 7);
        bad(p + "a by 0 0", 1, 22);
        bad(p + "a at 0", 1, 26);
        bad(p + "a at 0 0 sheet", 1, 29);
        bad(p + "a at 0 0 up 0 owes", 1, 34);
        bad(p + "a at 0 0 up 0 sheet 1;", 1, 41);
        bad(p + "a at 0 0 up 0 sheet 1 owes;", 1, 46);
        bad(p + "a at 0 0 up 0 sheet 1 owes 0", 1, 48);
    }

    private static void numbers() {
        bad("field 1 by 2;", 4, 6);
        bad("field 9 by 2;", 4, 6);
        bad("field 2 by 1;", 4, 11);
        bad("field 2 by 9;", 4, 11);
        bad("field 9by 2;", 4, 6);
        bad("field 2 by 9999 abcdefg", 4, 11);
        bad(F + "dew 2 0 1;", 4, 17);
        bad(F + "dew 0 2 1;", 4, 19);
        bad("field 3 by 2;dew 2 2 1;", 4, 19);
        bad("field 2 by 3;dew 2 2 1;", 4, 17);
        good("field 3 by 2;dew 2 1 1;", 2);
        good("field 2 by 3;dew 1 2 1;", 2);
        bad(F + "dew 0 0 100;", 4, 21);
        bad(F + "mist 101;", 4, 18);
        bad(F + "person a at 2 0 up", 4, 25);
        bad(F + "person a at 0 2 up", 4, 27);
        bad(F + "person a at 0 0 up 9", 4, 32);
        bad(F + "person a at 0 0 up 0 sheet 0", 4, 40);
        bad(F + "person a at 0 0 up 0 sheet 100", 4, 40);
        bad(F + "person a at 0 0 up 0 sheet 1 owes 100", 4, 47);
        good(F + "falls 9999;", 2);
        bad(F + "falls 10000;", 1, 23);
    }

    private static void sums() {
        String t = F + "takes ";
        bad(F + "takes", 1, 18);
        bad(t + ";", 1, 19);
        bad(t + "-1;", 1, 19);
        bad(t + "1+;", 1, 21);
        bad(t + "1 1;", 1, 21);
        bad(t + "1 column;", 1, 21);
        bad(t + "1**1;", 1, 21);
        bad(t + "();", 1, 20);
        bad(t + "(1;", 1, 21);
        bad(t + "1);", 1, 20);
        bad(t + "[1];", 1, 19);
        bad(t + "(1];", 1, 21);
        bad(t + "owes;", 1, 19);
        bad(t + "a;", 1, 19);
        bad(t + "all;", 1, 19);
        bad(t + "1<2;", 1, 20);
        bad(t + "min;", 1, 22);
        bad(t + "min(1);", 1, 24);
        bad(t + "min(1,2,3);", 1, 26);
        bad(t + "max[1,2];", 1, 22);
        bad(t + "if(1,2,3);", 1, 23);
        bad(t + "if(1<2,2);", 1, 27);
        bad(t + "if(1<2<3,1,2);", 1, 25);
        bad(t + "if(all all,1,2);", 1, 26);
        bad(t + "if(all=1,1,2);", 1, 25);
        bad(t + "if(not,1,2);", 1, 25);
        bad(t + "if([1],1,2);", 1, 24);
        bad(t + "if((1<2),1,2);", 1, 24);
        bad(t + "if(1<2 or,1,2);", 1, 28);
        bad(t + "if(1<2 and or all,1,2);", 1, 30);
        bad(t + "if(1!2,1,2);", 1, 23);
        good(t + "if((1)<(2),1,2);", 2);
        bad(F + "falls hour;", 1, 19);
        bad(F + "falls have;", 1, 19);
        bad(F + "falls sheet;", 1, 19);
        bad(F + "sun have;", 1, 17);
        bad(F + "sun sheet;", 1, 17);
        bad(F + "falls 1+if(hour<1,1,2);", 1, 24);
        good(F + "sun hour+day+dew+column+row;", 2);
    }

    private static void depth() {
        String t = F + "takes ";
        good(t + repeat("(", 7) + "1" + repeat(")", 7) + ";", 2);
        bad(t + repeat("(", 8) + "1" + repeat(")", 8) + ";", 5, 26);
        good(t + repeat("(1)+", 20) + "1;", 2);
        good(t + repeat("min(", 7) + "1" + repeat(",2)", 7) + ";", 2);
        bad(t + repeat("max(", 8) + "1" + repeat(",2)", 8) + ";", 5, 19 + 31);
        bad(t + repeat("min(1,", 8), 5, 19 + 7 * 6 + 3);
        good(t + "if(" + repeat("not ", 6) + "all,1,2);", 2);
        bad(t + "if(" + repeat("not ", 7) + "all,1,2);", 5, 22 + 24);
        good(t + "if(" + repeat("[", 6) + "all" + repeat("]", 6) + ",1,2);", 2);
        bad(t + "if(" + repeat("[", 7) + "all", 5, 22 + 6);
        good(t + "if(" + repeat("not not not not not not 1<2 and ", 5) + " not all or not all,1,2);", 2);
        good(t + "if(not (1)<((((((2)))))),1,2);".replace("((((((2))))))", "(((((2)))))"), 2);
        bad(t + "if(not (1)<((((((2)))))),1,2);", 5, 19 + 16);
        // The not is open still behind its SIGN, and open no more behind its FACT.
        bad(t + "if(not not not not not not 1<(2),1,2);", 5, 19 + 29);
        good(t + "if(not not not not not not 1<2,((((((1)))))),2);", 2);
        bad(t + "if(all,(((((((1", 5, 19 + 13);
        // Where it can't stand at all, the eighth is no depth.
        bad(t + repeat("(", 7) + "1(", 1, 27);
        bad(t + repeat("(", 7) + "[", 1, 26);
    }

    private static void counts() {
        bad(F + "falls 1;falls 2;", 6, 21);
        bad(F + "sun 1;sun 2;", 6, 19);
        bad(F + "takes 1;falls 1;sun 1; takes;", 6, 36);
        StringBuilder six = new StringBuilder(F);
        for (char c = 'a'; c < 'g'; c++) {
            six.append(A.replace(" a ", " " + c + " "));
        }
        good(six.toString(), 7);
        bad(six + "person g at", 6, 13 + 6 * 36);
        bad(six + "person a at", 6, 13 + 6 * 36);
        String most = F + repeat("dew 0 0 1;", 79);
        good(most, 80);
        good(most + " \n", 80);
        bad(most + "dew 0 0 1;", 6, 803);
        bad(most + " mist 1;", 6, 804);
        bad(most + "falls 1;", 6, 803);
        bad(most + "field 2 by 2;", 6, 803);
        bad(F + repeat("dew 0 0 1;", 78) + "dew 0 0 100;dew 0 0 1;", 4, 13 + 780 + 8);
        bad(F + repeat("dew 0 0 1;", 78) + "dew 0 0 1", 1, 13 + 780 + 9);
    }

    private static void has() {
        DewWages x = Checks.told("field 3 by 2;dew 1 0 20;dew 2 1 30;dew 1 0 7;" + A + "person b at 1 1 up 0 sheet 30 owes 0;");
        int[] due = {3, 2, 2, 0, 37, 0, 0, 0, 0, 1};
        for (int what = 0; what < due.length; what++) {
            Checks.is("has " + what, x.has(what), due[what]);
        }
        Checks.is("has -1", x.has(-1), -1);
        Checks.is("has 10", x.has(10), -1);
        x.days(2);
        x.rise(0, 3);
        Checks.see(x, 0, 0, 0, 0, 1, 1, 1, 1);
        x.seed(77);
        Checks.is("has: day", x.has(3), 2);
        Checks.is("has: dew of now", x.has(4), x.cell(0, 0) + x.cell(1, 0) + x.cell(2, 0) + x.cell(0, 1) + x.cell(1, 1) + x.cell(2, 1));
        Checks.is("has: dew of now, another than at first", x.has(4) != 37, true);
        Checks.is("has: purses", x.has(5), x.person(0, 5) + x.person(1, 5));
        Checks.is("has: purses, one of them not empty", x.has(5) > 0, true);
        Checks.is("has: kept", x.has(6), 2);
        Checks.is("has: seen", x.has(7), 2);
        Checks.is("has: acts", x.has(8), 2);
        Checks.is("has: seed", x.has(9), 77);
    }

    private static void letter() {
        DewWages x = Checks.told(F + "person az at 0 0 up 0 sheet 1 owes 1;person mnopqr at 0 0 up 0 sheet 1 owes 1;");
        int[] az = {1, 26, 0, 0, 0, 0};
        for (int k = 0; k < 6; k++) {
            Checks.is("letter of az " + k, x.letter(0, k), az[k]);
            Checks.is("letter of mnopqr " + k, x.letter(1, k), 13 + k);
        }
        Checks.is("letter -1", x.letter(0, -1), -1);
        Checks.is("letter 6", x.letter(0, 6), -1);
        Checks.is("letter of nobody", x.letter(2, 0), -1);
        Checks.is("letter of nobody below", x.letter(-1, 0), -1);
    }

    private static void cellsAndPeople() {
        DewWages x = Checks.told("field 3 by 2;dew 2 0 4;dew 0 1 99;dew 2 0 6;person a at 2 1 up 8 sheet 99 owes 98;");
        Checks.is("cell 2 0, the last one counts", x.cell(2, 0), 6);
        Checks.is("cell 0 1", x.cell(0, 1), 99);
        Checks.is("cell without dew", x.cell(1, 1), 0);
        Checks.is("no column 3", x.cell(3, 0), -1);
        Checks.is("no row 2", x.cell(0, 2), -1);
        Checks.is("no column -1", x.cell(-1, 0), -1);
        Checks.is("no row -1", x.cell(0, -1), -1);
        int[] due = {2, 1, 8, 99, 98, 0};
        for (int what = 0; what < 6; what++) {
            Checks.is("person " + what, x.person(0, what), due[what]);
        }
        Checks.is("person 6", x.person(0, 6), -1);
        Checks.is("person -1", x.person(0, -1), -1);
        Checks.is("nobody", x.person(1, 0), -1);
        Checks.is("nobody below", x.person(-1, 0), -1);
    }
}
