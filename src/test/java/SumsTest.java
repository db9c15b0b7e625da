/** What SUMS, PRODUCTS, TESTS and FACTS come to (promise 4's text, as promise 11 tells it). */
public final class SumsTest {
    public static void main(String[] args) {
        numbers();
        bounds();
        tests();
        facts();
        signsWithAndOrNot();
        factsOfTheCellGoneTo();
        haveIsOfThisDay();
        lawsUntoldAndBelowZero();
        eachHourAndDay();
        deepest();
        Checks.finish();
    }

    private static DewWages falls(String sum) {
        return Checks.told("field 2 by 2;falls " + sum + ";sun 0;");
    }

    private static void is(String sum, int due) {
        DewWages x = falls("if(" + sum + "=" + due + ",1,2)");
        Checks.is(sum + " = " + due, x.dew(0, 0, -1), 1);
    }

    /** A SUM below 0, as there is no sign for that. */
    private static void isBelow(String sum, int due) {
        DewWages x = falls("if(0-(" + sum + ")=" + due + ",1,2)");
        Checks.is(sum + " = -" + due, x.dew(0, 0, -1), 1);
    }

    private static void holds(String test, boolean due) {
        DewWages x = falls("if(" + test + ",1,2)");
        Checks.is(test, x.dew(0, 0, -1), due ? 1 : 2);
    }

    private static void numbers() {
        is("1+2*3", 7);
        is("(1+2)*3", 9);
        is("9-3-2", 4);
        is("9-(3-2)", 8);
        is("9-3+2", 8);
        is("100/7/2", 7);
        is("100/7*2", 28);
        is("100%7*3", 6);
        is("2*7%5", 4);
        is("7*2/5", 2);
        is("17/5", 3);
        is("17%5", 2);
        isBelow("(0-17)/5", 4);
        is("(0-17)%5", 3);
        isBelow("17/(0-5)", 4);
        isBelow("17%(0-5)", 3);
        is("(0-17)/(0-5)", 3);
        isBelow("(0-17)%(0-5)", 2);
        isBelow("(0-15)/5", 3);
        is("(0-15)%5", 0);
        is("7/0", 0);
        is("7%0", 0);
        is("(0-7)/0+(0-7)%0", 0);
        is("0/7+0%7", 0);
        is("0009", 9);
        is("min(3,4)", 3);
        is("min(4,3)", 3);
        is("max(3,4)", 4);
        is("max(4,3)", 4);
        isBelow("min(0-3,2)", 3);
        is("max(0-3,2)", 2);
        is("min(1,2)+max(1,2)*min(5,max(6,7))", 11);
        is("if(1<2,3,4)", 3);
        is("if(1>2,3,4)", 4);
        is("if(all,if(not all,1,2),3)+if(1=2,1,5)*2", 12);
    }

    private static void bounds() {
        is("9999*9999/1000", 1000);
        is("1000*1000/1000", 1000);
        is("9999*9999-1000*1000", 0);
        is("1000*1000+1-1000*1000", 0);
        is("1000*1000-1+1-1000*999", 1000);
        is("1000*1000-1-1000*999", 999);
        isBelow("(0-9999)*9999+1000*999", 1000);
        is("(0-1000)*1000-1+1000*1000", 0);
        is("(0-1000)*1000+1+1000*1000", 1);
        is("1000*1000*1000/1000", 1000);
        // Just at the bound, one above it and one below it, by each sign that can pass it.
        is("1000*1000-999*1000-1000", 0);
        is("1001*999-998*1000", 1999);
        is("1000*999+1000-999*1000-1000", 0);
        is("1000*999+1001-999*1000-1000", 0);
        is("1000*999+999-999*1000", 999);
        is("0-1000*999-1000+999*1000+1000", 0);
        is("0-1000*999-1001+999*1000+1000", 0);
        is("0-1000*999-999+999*1000+1000", 1);
        is("(0-1001)*999+1000*1000", 1);
        is("(0-1002)*999+1000*1000", 0);
        is("(0-1000)*(0-1001)-1000*1000", 0);
        is("1000*(0-1001)+1000*1000", 0);
        is("1000*1000/1-999*1000", 1000);
        is("(0-1000)*1000/(0-1)-1000*999", 1000);
        is("1000*1000%9999", 1000000 % 9999);
        isBelow("max(0-9999*9999,0-9999*9999)+999*1000", 1000);
        is("min(9999*9999,9999*9999)-999*1000", 1000);
        is("if(all,9999*9999,0)-999*1000", 1000);
    }

    private static void tests() {
        holds("1<2", true);
        holds("2<2", false);
        holds("3>2", true);
        holds("2>2", false);
        holds("2=2", true);
        holds("2=3", false);
        holds("all", true);
        holds("not all", false);
        holds("not not all", true);
        holds("all or all and not all", true);
        holds("not all and all or all", true);
        holds("[all or all] and not all", false);
        holds("not all and [all or all]", false);
        holds("not 1<2 or 1<2", true);
        holds("not [1<2 or 1<2]", false);
        holds("not 1<2 and 1>2", false);
        holds("not [1<2 and 1>2]", true);
        holds("all and all and not all", false);
        holds("not all or not all or all", true);
        holds("1+1<1*3", true);
        holds("0-1<0", true);
    }

    private static void facts() {
        DewWages x = Checks.told("field 3 by 4;dew 2 3 5;falls column*10+row+dew+day;sun 0;");
        Checks.is("column, row, dew", x.dew(2, 3, -1), 5 + 28);
        Checks.is("column, row", x.dew(1, 2, -1), 12);
        x.days(1);
        Checks.is("day", x.dew(1, 2, -1), 12 + 12 + 12 + 1);
        x = Checks.told("field 2 by 2;falls 50;sun if(hour=3 and column=1 and row=0,dew/2+day,0);");
        Checks.is("sun ahead of its hour", x.dew(1, 0, 2), 50);
        Checks.is("sun in its hour", x.dew(1, 0, 3), 25);
        Checks.is("sun behind its hour", x.dew(1, 0, 8), 25);
        Checks.is("sun elsewhere", x.dew(0, 0, 8), 50);
        Checks.is("sun elsewhere too", x.dew(1, 1, 8), 50);
        x = Checks.told("field 2 by 2;dew 1 1 90;person a at 1 1 up 0 sheet 80 owes 0;falls 0;sun 0;"
            + "takes column+row*2+hour*3+have/4+sheet/20+day+dew/30;");
        // 1+2+0+0+4+0+3, then 1+2+3+2+4+0+2, then 1+2+6+6+4+0+2.
        Checks.is("takes at 0", x.today(0, 0, 2), 10);
        Checks.is("takes at 1", x.today(0, 1, 2), 24);
        Checks.is("takes at 2", x.today(0, 2, 2), 45);
    }

    /** Each of the three signs in each place of a TEST. */
    private static void signsWithAndOrNot() {
        String[] yes = {"1<2", "2>1", "2=2", "all", "[1<2]", "not 2<1", "not not 1=1", "(1)<(2)", "[not [2>3]]"};
        String[] no = {"2<1", "1>2", "1=2", "not all", "[2<1]", "not 1<2", "not 2>1", "not 2=2", "not not 1=2", "2<2", "2>2"};
        for (int i = 0; i < yes.length; i++) {
            for (int k = 0; k < no.length; k++) {
                String y = yes[i];
                String n = no[k];
                holds(y + " or " + n, true);
                holds(n + " or " + y, true);
                holds(y + " and " + n, false);
                holds(n + " and " + y, false);
                holds(y + " and " + yes[k % yes.length], true);
                holds(n + " or " + no[i], false);
                holds("not [" + y + " and " + n + "]", true);
                holds("not [" + n + " or " + y + "]", false);
                holds(y + " or " + y + " and " + n, true);
                holds(n + " and " + y + " or " + y, true);
                holds(n + " or " + y + " and " + n + " or " + n, false);
            }
        }
        holds("0-3<0-2", true);
        holds("0-2<0-3", false);
        holds("0-2>0-3", true);
        holds("0-2=0-2", true);
        holds("min(1,2)=max(0,1)", true);
        holds("if(all,1,2)<if(all,2,1)", true);
    }

    /** In takes the CELL is the one he goes to, with the dew ahead of this wringing; in sun there is what is left. */
    private static void factsOfTheCellGoneTo() {
        String field = "field 3 by 3;dew 2 1 60;falls 0;";
        String p = "person a at 1 1 up 0 sheet 99 owes 0;person b at 1 1 up 0 sheet 99 owes 0;";
        DewWages x = Checks.told(field + "sun 0;takes if(hour=0,column*10+row,0);" + p);
        Checks.is("the column and row gone to", x.today(0, 0, 2), 21);
        Checks.is("the second one's", x.today(1, 0, 2), 21);
        x = Checks.told(field + "sun 0;takes if(hour=0,dew/2,0);" + p);
        Checks.is("the dew gone to", x.today(0, 0, 2), 30);
        Checks.is("the dew that the first one left", x.today(1, 0, 2), 15);
        Checks.is("the dew that both left", x.dew(2, 1, 0), 15);
        x = Checks.told(field + "sun if(hour=0,dew/3,0);takes if(hour=0,dew/2,0);" + p);
        Checks.is("sun of what is left", x.dew(2, 1, 0), 10);
        x = Checks.told(field + "sun if(hour=8,column*5+row,0);takes 0;");
        Checks.is("sun by column and row", x.dew(2, 1, 8), 49);
        Checks.is("sun in hour 8 alone", x.dew(2, 1, 7), 60);
        // What falls is told by the dew that lies there ahead of it, of each CELL its own.
        x = Checks.told("field 3 by 3;dew 2 1 40;dew 0 0 7;falls dew/2+column+row*10;sun 0;");
        Checks.is("falls by dew", x.dew(2, 1, -1), 40 + 20 + 12);
        Checks.is("falls by another dew", x.dew(0, 0, -1), 7 + 3);
    }

    /** have is what he has wrung in this DAY, sheet how much his holds: a's are not b's. */
    private static void haveIsOfThisDay() {
        DewWages x = Checks.told("field 2 by 2;falls 99;sun 0;takes if(have=0,sheet/10,if(have<sheet,1,99));"
            + "person a at 0 0 up 0 sheet 50 owes 0;person b at 1 1 up 7 sheet 90 owes 0;");
        Checks.is("a, hour 0", x.today(0, 0, 2), 5);
        Checks.is("a, hour 1", x.today(0, 1, 2), 6);
        Checks.is("a, hour 8", x.today(0, 8, 2), 13);
        Checks.is("b, hour 7", x.today(1, 7, 2), 9);
        Checks.is("b, hour 8", x.today(1, 8, 2), 10);
        Checks.is("both", x.days(1), 23);
        Checks.is("a has nothing again", x.today(0, 0, 2), 5);
        Checks.is("both again", x.days(3), 69);
        x.weave(0, 70);
        Checks.is("another sheet", x.today(0, 0, 2), 7);
    }

    private static void lawsUntoldAndBelowZero() {
        DewWages x = Checks.told("field 2 by 2;dew 0 0 30;person a at 0 0 up 0 sheet 99 owes 0;");
        Checks.is("falls 5 untold", x.dew(1, 1, -1), 5);
        Checks.is("takes 9 untold", x.today(0, 0, 2), 9);
        Checks.is("sun 1 untold", x.dew(0, 0, 0), 25);
        for (String law : new String[] {"0", "0-1", "0-9999", "0-9999*9999", "(0-7)/2"}) {
            x = Checks.told("field 2 by 2;dew 0 0 30;falls " + law + ";sun " + law + ";takes " + law + ";mist 100;"
                + "person a at 0 0 up 0 sheet 99 owes 0;");
            Checks.is("falls " + law, x.dew(0, 0, -1), 30);
            Checks.is("takes " + law, x.today(0, 8, 2), 0);
            Checks.is("sun " + law, x.dew(0, 0, 8), 30);
            x.chance(1);
            Checks.is("falls twice " + law, x.cell(0, 0), 30);
        }
        for (String law : new String[] {"99", "100", "9999", "9999*9999"}) {
            x = Checks.told("field 2 by 2;dew 0 0 30;falls " + law + ";sun if(hour=8," + law + ",0);takes " + law + ";mist 100;"
                + "person a at 0 0 up 0 sheet 98 owes 0;");
            Checks.is("falls " + law, x.dew(0, 0, -1), 99);
            Checks.is("takes " + law, x.today(0, 0, 2), 98);
            Checks.is("what he can't hold", x.dew(0, 0, 0), 1);
            Checks.is("sun " + law, x.dew(0, 0, 8) + x.dew(1, 1, 8), 0);
            x.chance(1);
            Checks.is("falls twice, sun " + law, x.has(4), 0);
        }
    }

    /** A DAY has nine HOURS, 0 to 8, TODAY as well as when it goes by; hour and day are told as they are then. */
    private static void eachHourAndDay() {
        String field = "field 2 by 2;dew 0 0 99;falls 0;";
        DewWages x = Checks.told(field);
        x.days(1);
        Checks.is("nine times the sun", x.cell(0, 0), 90);
        x.chance(1);
        Checks.is("nine times by the seed", x.cell(0, 0), 81);
        Checks.is("nine times ahead", x.later(0, 0, 1), 72);
        for (int hour = 0; hour < 9; hour++) {
            x = Checks.told(field + "sun if(hour=" + hour + ",50,0);");
            Checks.is("ahead of the sun of " + hour, x.dew(0, 0, hour - 1), 99);
            Checks.is("behind the sun of " + hour, x.dew(0, 0, hour), 49);
            x.days(1);
            Checks.is("the sun of " + hour + " in a day", x.cell(0, 0), 49);
            x = Checks.told(field + "sun 0;takes if(hour=" + hour + ",50,0);person a at 0 0 up 0 sheet 99 owes 0;");
            Checks.is("wrung ahead of " + hour, hour == 0 ? 0 : x.today(0, hour - 1, 2), 0);
            Checks.is("wrung in " + hour, x.today(0, hour, 2), 50);
            Checks.is("wrung in " + hour + " in a day", x.days(1), 50);
            Checks.is("what is left", x.cell(0, 0), 49);
        }
        x = Checks.told(field + "sun if(hour>8 or hour<0,50,0);");
        Checks.is("no other hours", x.dew(0, 0, 8), 99);
        x = Checks.told(field + "sun if(hour=8,day,0);takes day+1;person a at 0 0 up 8 sheet 99 owes 0;");
        Checks.is("takes on day 0", x.days(1), 1);
        Checks.is("takes on day 1", x.days(1), 2);
        Checks.is("the suns of days 0 and 1", x.cell(0, 0), 99 - 3 - 1);
        Checks.is("takes on day 2, today", x.today(0, 8, 2), 3);
        Checks.is("the sun of day 2, today", x.dew(0, 0, 8), 95 - 3 - 2);
        Checks.is("best on day 2", x.up(0, 1), 9 * 3);
        Checks.is("at best on day 2", x.home(0, 2), 3);
        Checks.is("a way on day 2", x.way(0, 1, -1), 3);
    }

    /** Seven open at once, with as much waiting in each of them as can be. */
    private static void deepest() {
        String test = "if(1=2 or 1=1 and 0<0+1*";
        has("10+5*" + test.repeat(7) + "1" + ",1,0)".repeat(7), 15);
        has("10+5*" + test.repeat(7) + "0" + ",1,0)".repeat(7), 10);
        has("10+5*" + test.repeat(7) + "0-1" + ",1,0)".repeat(7), 10);
        has("1+" + "min(9,1+1*".repeat(7) + "1" + ")".repeat(7), 9);
        has("1+" + "max(1,1+1*".repeat(7) + "1" + ")".repeat(7), 9);
        has("1+" + "(1+1*".repeat(7) + "1" + ")".repeat(7), 9);
        has("1+" + "if(1=2,1,1+1*".repeat(7) + "1" + ")".repeat(7), 9);
        has("1+" + "if(all,1+1*".repeat(7) + "1" + ",3)".repeat(7), 9);
        has("if(" + "[1=2 or 1=1 and ".repeat(6) + "0<1" + "]".repeat(6) + ",7,8)", 7);
        has("if(" + "[1=2 or 1=1 and ".repeat(6) + "1<0" + "]".repeat(6) + ",7,8)", 8);
        has("if(" + "not [".repeat(3) + "1=2 or 1=1 and 0<1" + "]".repeat(3) + ",7,8)", 8);
        has("if(" + "not ".repeat(6) + "0<1,7,8)", 7);
        has("if(" + "not ".repeat(5) + "0<1,7,8)", 8);
    }

    private static void has(String sum, int due) {
        Checks.is(sum, falls(sum).dew(0, 0, -1), due);
    }
}
