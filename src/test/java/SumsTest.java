/** What SUMS, PRODUCTS, TESTS and FACTS come to (promise 4's text, as promise 11 tells it). */
public final class SumsTest {
    public static void main(String[] args) {
        numbers();
        bounds();
        tests();
        facts();
        Checks.finish();
    }

    private static DewWages falls(String sum) {
        return Checks.told("field 2 by 2;falls " + sum + ";sun 0;");
    }

    private static void is(String sum, int due) {
        DewWages x = falls("if(" + sum + "=" + due + ",1,2)");
        Checks.is(sum + " = " + due, x.dew(0, 0, -1), 1);
    }

    /** A SUM below 0, as there is no sign for that. */
    private static void isBelow(String sum, int due) {
        DewWages x = falls("if(0-(" + sum + ")=" + due + ",1,2)");
        Checks.is(sum + " = -" + due, x.dew(0, 0, -1), 1);
    }

    private static void holds(String test, boolean due) {
        DewWages x = falls("if(" + test + ",1,2)");
        Checks.is(test, x.dew(0, 0, -1), due ? 1 : 2);
    }

    private static void numbers() {
        is("1+2*3", 7);
        is("(1+2)*3", 9);
        is("9-3-2", 4);
        is("9-(3-2)", 8);
        is("9-3+2", 8);
        is("100/7/2", 7);
        is("100/7*2", 28);
        is("100%7*3", 6);
        is("2*7%5", 4);
        is("7*2/5", 2);
        is("17/5", 3);
        is("17%5", 2);
        isBelow("(0-17)/5", 4);
        is("(0-17)%5", 3);
        isBelow("17/(0-5)", 4);
        isBelow("17%(0-5)", 3);
        is("(0-17)/(0-5)", 3);
        isBelow("(0-17)%(0-5)", 2);
        isBelow("(0-15)/5", 3);
        is("(0-15)%5", 0);
        is("7/0", 0);
        is("7%0", 0);
        is("(0-7)/0+(0-7)%0", 0);
        is("0/7+0%7", 0);
        is("0009", 9);
        is("min(3,4)", 3);
        is("min(4,3)", 3);
        is("max(3,4)", 4);
        is("max(4,3)", 4);
        isBelow("min(0-3,2)", 3);
        is("max(0-3,2)", 2);
        is("min(1,2)+max(1,2)*min(5,max(6,7))", 11);
        is("if(1<2,3,4)", 3);
        is("if(1>2,3,4)", 4);
        is("if(all,if(not all,1,2),3)+if(1=2,1,5)*2", 12);
    }

    private static void bounds() {
        is("9999*9999/1000", 1000);
        is("1000*1000/1000", 1000);
        is("9999*9999-1000*1000", 0);
        is("1000*1000+1-1000*1000", 0);
        is("1000*1000-1+1-1000*999", 1000);
        is("1000*1000-1-1000*999", 999);
        isBelow("(0-9999)*9999+1000*999", 1000);
        is("(0-1000)*1000-1+1000*1000", 0);
        is("(0-1000)*1000+1+1000*1000", 1);
        is("1000*1000*1000/1000", 1000);
    }

    private static void tests() {
        holds("1<2", true);
        holds("2<2", false);
        holds("3>2", true);
        holds("2>2", false);
        holds("2=2", true);
        holds("2=3", false);
        holds("all", true);
        holds("not all", false);
        holds("not not all", true);
        holds("all or all and not all", true);
        holds("not all and all or all", true);
        holds("[all or all] and not all", false);
        holds("not all and [all or all]", false);
        holds("not 1<2 or 1<2", true);
        holds("not [1<2 or 1<2]", false);
        holds("not 1<2 and 1>2", false);
        holds("not [1<2 and 1>2]", true);
        holds("all and all and not all", false);
        holds("not all or not all or all", true);
        holds("1+1<1*3", true);
        holds("0-1<0", true);
    }

    private static void facts() {
        DewWages x = Checks.told("field 3 by 4;dew 2 3 5;falls column*10+row+dew+day;sun 0;");
        Checks.is("column, row, dew", x.dew(2, 3, -1), 5 + 28);
        Checks.is("column, row", x.dew(1, 2, -1), 12);
        x.days(1);
        Checks.is("day", x.dew(1, 2, -1), 12 + 12 + 12 + 1);
        x = Checks.told("field 2 by 2;falls 50;sun if(hour=3 and column=1 and row=0,dew/2+day,0);");
        Checks.is("sun ahead of its hour", x.dew(1, 0, 2), 50);
        Checks.is("sun in its hour", x.dew(1, 0, 3), 25);
        Checks.is("sun behind its hour", x.dew(1, 0, 8), 25);
        Checks.is("sun elsewhere", x.dew(0, 0, 8), 50);
        Checks.is("sun elsewhere too", x.dew(1, 1, 8), 50);
        x = Checks.told("field 2 by 2;dew 1 1 90;person a at 1 1 up 0 sheet 80 owes 0;falls 0;sun 0;"
            + "takes column+row*2+hour*3+have/4+sheet/20+day+dew/30;");
        // 1+2+0+0+4+0+3, then 1+2+3+2+4+0+2, then 1+2+6+6+4+0+2.
        Checks.is("takes at 0", x.today(0, 0, 2), 10);
        Checks.is("takes at 1", x.today(0, 1, 2), 24);
        Checks.is("takes at 2", x.today(0, 2, 2), 45);
    }
}
