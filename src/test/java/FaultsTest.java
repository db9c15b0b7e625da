import java.util.ArrayList;
import java.util.List;

/** Promises 4 and 5, place by place: one text with all that the language has, spoilt at each of its words and signs. */
public final class FaultsTest {
    private static final String[] WHOLE = ("field 3 by 2 ; dew 2 1 99 ; person abcdef at 2 1 up 8 sheet 99 owes 99 ; "
        + "falls ( column + 1 ) * row / 2 % 3 - day ; sun min ( hour , max ( dew , 7 ) ) ; "
        + "takes if ( not [ have < 1 or all ] and sheet > 2 , have , if ( 1 = 1 , 2 , 3 ) ) ; mist 100 ;").split(" ");
    private static final String F = "field 2 by 2;";
    private static final String T = F + "takes ";

    public static void main(String[] args) {
        wholeTextWithFewAndManyBlanks();
        endsTooSoon();
        byteThatStandsNowhere();
        wordOrNumberThatStandsNowhere();
        statementEndsTooSoon();
        sideBySide();
        onlyTwoKindsOfBlanks();
        numbersLeastAndMost();
        fiveDigitsAndSevenLetters();
        eighthOpenOfEachKind();
        openEndsWithTheText();
        peopleAndNames();
        ownWordsAreNoNames();
        lawsOnce();
        eightyStatements();
        firstAlongTheText();
        latestValleyAlone();
        Checks.finish();
    }

    // ---- helpers

    private static boolean isRun(String token) {
        char c = token.charAt(0);
        return c >= 'a' && c <= 'z' || c >= '0' && c <= '9';
    }

    private static boolean isNumber(String token) {
        return token.charAt(0) <= '9' && token.charAt(0) >= '0';
    }

    /** These tokens with a blank behind each, up to one of them. */
    private static String text(String[] tokens, int end) {
        StringBuilder b = new StringBuilder();
        for (int i = 0; i < end; i++) {
            b.append(tokens[i]).append(' ');
        }
        return b.toString();
    }

    private static String repeat(String s, int n) {
        return s.repeat(n);
    }

    private static void good(String text, int statements) {
        DewWages x = new DewWages();
        Checks.is("valley of " + text, Checks.valley(x, text), statements);
        Checks.is("fault of " + text, x.fault(0), 0);
        Checks.is("place of " + text, x.fault(1), -1);
        Checks.is("not refused: " + text, x.status(1), 0);
    }

    private static void bad(String text, int kind, int place) {
        DewWages x = new DewWages();
        Checks.is("valley of " + text, Checks.valley(x, text), -1);
        Checks.is("fault of " + text, x.fault(0), kind);
        Checks.is("place of " + text, x.fault(1), place);
        Checks.is("refused: " + text, x.status(1), 1);
        Checks.is("no cells by " + text, x.has(0), 0);
        Checks.is("nobody by " + text, x.has(2), 0);
    }

    // ---- blanks

    private static void wholeTextWithFewAndManyBlanks() {
        StringBuilder few = new StringBuilder();
        StringBuilder many = new StringBuilder("\n \n");
        for (int i = 0; i < WHOLE.length; i++) {
            few.append(i > 0 && isRun(WHOLE[i - 1]) && isRun(WHOLE[i]) ? "\n" : "").append(WHOLE[i]);
            many.append(WHOLE[i]).append("  \n\n ");
        }
        for (String text : new String[] {text(WHOLE, WHOLE.length), few.toString(), many.toString()}) {
            good(text, 7);
            DewWages x = Checks.told(text);
            Checks.is("columns", x.has(0), 3);
            Checks.is("rows", x.has(1), 2);
            Checks.is("dew", x.has(4), 99);
            Checks.is("the sixth letter", x.letter(0, 5), 6);
            Checks.is("up", x.person(0, 2), 8);
            // (2 + 1) * 1 / 2 % 3 - 0.
            Checks.is("falls, on 2 1 no more than 99", x.dew(2, 1, -1), 99);
            Checks.is("falls, on 1 1", x.dew(1, 1, -1), 1);
            Checks.is("mist", x.chance(1), 1);
        }
    }

    private static void onlyTwoKindsOfBlanks() {
        int[] others = {0, 1, 9, 11, 12, 13, 31, 33, 95, 127, 128, 160, 255};
        for (int i = 0; i < WHOLE.length; i++) {
            char other = (char) others[i % others.length];
            String ahead = text(WHOLE, i);
            bad(ahead + other + WHOLE[i], 1, ahead.length());
        }
        for (int other : others) {
            bad(F + (char) other, 1, 13);
            bad((char) other + F, 1, 0);
        }
    }

    // ---- fault 1

    private static void endsTooSoon() {
        for (int i = 0; i < WHOLE.length; i++) {
            String text = text(WHOLE, i);
            if (i > 0 && WHOLE[i - 1].equals(";")) {
                Checks.is("cut behind a statement: " + text, Checks.valley(new DewWages(), text) > 0, true);
            } else {
                bad(text, 1, text.length());
                bad(text + "\n ", 1, text.length() + 2);
            }
        }
        bad("", 1, 0);
        bad(" ", 1, 1);
        bad(repeat("\n ", 40), 1, 80);
    }

    private static void byteThatStandsNowhere() {
        for (int i = 0; i < WHOLE.length; i++) {
            String ahead = text(WHOLE, i);
            for (String sign : new String[] {"?", ".", "A", "{", "~", "\u00e4"}) {
                bad(ahead + sign, 1, ahead.length());
                bad(ahead + " " + sign + text(WHOLE, WHOLE.length), 1, ahead.length() + 1);
            }
        }
    }

    /** A NAME stands behind person alone, by behind a number alone, and no number behind a whole SUM or NUMBER. */
    private static void wordOrNumberThatStandsNowhere() {
        for (int i = 0; i < WHOLE.length; i++) {
            String ahead = text(WHOLE, i);
            if (!WHOLE[i].equals("abcdef")) {
                bad(ahead + "zz", 1, ahead.length());
                bad(ahead + "xxxxxx " + WHOLE[i], 1, ahead.length());
            }
            if (!WHOLE[i].equals("by")) {
                bad(ahead + "by 2", 1, ahead.length());
            }
            if (!isRun(WHOLE[i]) && !WHOLE[i].equals("(") && !WHOLE[i].equals("[")) {
                bad(ahead + "7", 1, ahead.length());
                bad(ahead + "9999 " + WHOLE[i], 1, ahead.length());
            }
        }
    }

    /** A ; where no STATEMENT ends: not behind a whole SUM, where it can stand. */
    private static void statementEndsTooSoon() {
        int open = 0;
        for (int i = 0; i < WHOLE.length; i++) {
            open += WHOLE[i].equals("(") || WHOLE[i].equals("[") ? 1 : 0;
            open -= WHOLE[i].equals(")") || WHOLE[i].equals("]") ? 1 : 0;
            boolean joins = open == 0 && "+-*/%".contains(WHOLE[i]);
            if (!joins && !WHOLE[i].equals(";")) {
                String ahead = text(WHOLE, i);
                bad(ahead + ";", 1, ahead.length());
                bad(ahead + "; mist 1;", 1, ahead.length());
            }
        }
        for (String joins : new String[] {"+", "-", "*", "/", "%"}) {
            bad(T + "1" + joins + ";", 1, 21);
            bad(T + "1" + joins + ";mist 1;", 1, 21);
            bad(T + joins + "1;", 1, 19);
            bad(T + "(1" + joins + ");", 1, 22);
            bad(T + "1" + joins + "1" + joins + ";mist 1;", 1, 23);
        }
        bad(T + "if(1<2 or ,1,2);", 1, 29);
        bad(T + "if(1<2 and ,1,2);", 1, 30);
        bad(T + "if(1<,1,2);", 1, 24);
        bad(T + "if(all,,2);", 1, 26);
        bad(T + "if(all,1,);", 1, 28);
        bad(T + "min(,1);", 1, 23);
        bad(T + "max(1,);", 1, 25);
        bad(F + ";", 1, 13);
        bad(F + "mist 1;;", 1, 20);
        bad(";" + F, 1, 0);
    }

    /** A word and a number need a blank between them; all else needs none. */
    private static void sideBySide() {
        for (int i = 0; i + 1 < WHOLE.length; i++) {
            boolean needs = isRun(WHOLE[i]) && isRun(WHOLE[i + 1]) && isNumber(WHOLE[i]) != isNumber(WHOLE[i + 1]);
            String glued = text(WHOLE, i) + WHOLE[i];
            if (needs) {
                bad(glued + WHOLE[i + 1] + " ", 1, glued.length());
                bad(glued + WHOLE[i + 1] + "00000aaaaaaa", 1, glued.length());
            }
        }
    }

    private static void fiveDigitsAndSevenLetters() {
        for (int i = 0; i < WHOLE.length; i++) {
            String ahead = text(WHOLE, i);
            bad(ahead + "abcdefg", 1, ahead.length() + 6);
            bad(ahead + "abcdefghijklmnop 1", 1, ahead.length() + 6);
            bad(ahead + "00001", 1, ahead.length() + 4);
            bad(ahead + "1234567890", 1, ahead.length() + 4);
        }
    }

    // ---- fault 4

    /** The numbers of a text with one of them left out: the least and the most that can be there. */
    private static void range(String ahead, String behind, int least, int most) {
        for (int n = 0; n <= 9999; n = n < 130 ? n + 1 : n * 3) {
            String text = ahead + n + behind;
            if (n >= least && n <= most) {
                Checks.is("valley of " + text, Checks.valley(new DewWages(), text) > 0, true);
            } else {
                bad(text, 4, ahead.length());
            }
        }
        bad(ahead + 9999 + behind, 4, ahead.length());
        bad(ahead + (most + 1) + "a", 4, ahead.length());
        String wide = ("000" + most).substring(("000" + most).length() - 4);
        Checks.is("four digits for " + most, Checks.valley(new DewWages(), ahead + wide + behind) > 0, true);
    }

    private static void numbersLeastAndMost() {
        range("field ", " by 2;", 2, 8);
        range("field 2 by ", ";", 2, 8);
        range("field 5 by 3;dew ", " 2 1;", 0, 4);
        range("field 5 by 3;dew 4 ", " 1;", 0, 2);
        range("field 5 by 3;dew 4 2 ", ";", 0, 99);
        range("field 5 by 3;mist ", ";", 0, 100);
        String p = "field 5 by 3;person a at ";
        range(p, " 2 up 0 sheet 1 owes 0;", 0, 4);
        range(p + "4 ", " up 0 sheet 1 owes 0;", 0, 2);
        range(p + "4 2 up ", " sheet 1 owes 0;", 0, 8);
        range(p + "4 2 up 0 sheet ", " owes 0;", 1, 99);
        range(p + "4 2 up 0 sheet 1 owes ", ";", 0, 99);
        good(F + "falls 9999;sun 0000;takes 0;", 4);
        good("field 8 by 8;dew 7 7 99;", 2);
        bad("field 8 by 8;dew 8 7 99;", 4, 17);
        bad("field 8 by 8;dew 7 8 99;", 4, 19);
    }

    // ---- fault 5

    private static void eighthOpenOfEachKind() {
        String[] sums = {"(", "min(", "max(1,", "if(all,", "if(all,1,", "if(1<", "if(", "if(not "};
        for (String seven : sums) {
            if (seven.equals("if(") || seven.equals("if(not ")) {
                continue;
            }
            String ahead = T + repeat(seven, 7);
            for (String eighth : sums) {
                int sign = eighth.indexOf('(');
                bad(ahead + eighth, 5, ahead.length() + sign);
                String six = T + repeat(seven, 6);
                DewWages x = new DewWages();
                Checks.valley(x, six + eighth.substring(0, sign + 1));
                Checks.is("the seventh of " + seven + " and " + eighth, x.fault(0), 1);
            }
            bad(ahead + "1+(", 5, ahead.length() + 2);
            bad(ahead + "1*min(", 5, ahead.length() + 5);
        }
        String test = T + "if(";
        bad(test + repeat("[", 7), 5, 22 + 6);
        bad(test + repeat("not ", 7), 5, 22 + 24);
        bad(test + repeat("not[", 4), 5, 22 + 12);
        bad(test + repeat("[not ", 4), 5, 22 + 15);
        bad(test + repeat("[", 6) + "(", 5, 22 + 6);
        bad(test + repeat("not ", 6) + "(", 5, 22 + 24);
        bad(test + repeat("[", 6) + "1<(", 5, 22 + 8);
        bad(test + repeat("[", 6) + "all and not all", 5, 22 + 14);
        bad(test + repeat("[", 6) + "all or [all", 5, 22 + 13);
        bad(test + repeat("[", 6) + "all or min(1", 5, 22 + 16);
        good(test + repeat("not[", 3) + "all" + repeat("]", 3) + ",1,2);", 2);
        // Closed ones count no more, a not no more behind its FACT.
        good(T + repeat("((((((1))))))+", 9) + "(((((((1)))))));", 2);
        good(test + repeat("[[[[[[all]]]]]] and ", 4) + repeat("[[[[[[all]]]]]] or ", 4) + repeat("not ", 6) + "all,((((((1)))))),2);", 2);
        good(test + "not not not not not not all or not not not not not not all,1,2)+(((((((1)))))));", 2);
        good(test + "not not not not not [1<2] and not not not not not not 1<2,1,2);", 2);
        good(F + "falls (((((((1)))))));sun (((((((1)))))));takes (((((((1)))))));", 4);
    }

    /** What a refused text leaves open is not open in the next one. */
    private static void openEndsWithTheText() {
        String seven = F + "takes (((((((1)))))));";
        for (String refused : new String[] {"(", "((((((1", "if(not not all", "if([[1", "min(max(1,", "((((((((1"}) {
            DewWages x = new DewWages();
            Checks.is("refused: " + refused, Checks.valley(x, T + refused), -1);
            Checks.is("seven open behind " + refused, Checks.valley(x, seven), 2);
            Checks.valley(x, T + refused);
            Checks.valley(x, F + "takes ((((((((1");
            Checks.is("the eighth behind " + refused, x.fault(0), 5);
            Checks.is("its place behind " + refused, x.fault(1), 26);
        }
    }

    // ---- faults 2 and 6

    private static String person(String name) {
        return "person " + name + " at 0 0 up 0 sheet 1 owes 0;";
    }

    private static void peopleAndNames() {
        String some = F;
        for (String name : new String[] {"a", "b", "aa", "ab", "abcdef"}) {
            good(some + person(name), some.split(";").length + 1);
            some += person(name);
            bad(some + "person " + name, 2, some.length() + 7);
        }
        String six = some + person("abcdeg");
        good(six, 7);
        bad(six + person("z"), 6, six.length());
        bad(six + " \n" + person("z"), 6, six.length() + 2);
        bad(six + "person", 6, six.length());
        good(six + "mist 1;", 8);
        String two = F + person("a") + person("b");
        bad(two + person("a"), 2, two.length() + 7);
        bad(two + "person \n a", 2, two.length() + 9);
        bad(two + "person b9999", 2, two.length() + 7);
        bad(two + "person b;", 2, two.length() + 7);
        DewWages x = Checks.told(six);
        Checks.is("abcdeg, its last letter", x.letter(5, 5), 7);
        Checks.is("aa, its second letter", x.letter(2, 1), 1);
        // A name of a text that was refused, or of the text before, is free.
        x = new DewWages();
        Checks.valley(x, two + "?");
        Checks.is("names of a refused text", Checks.valley(x, two), 3);
        Checks.is("names of the text before", Checks.valley(x, two), 3);
        good(F + person("att") + person("fie") + person("ba") + person("ifx") + person("maxi"), 6);
    }

    private static void ownWordsAreNoNames() {
        for (String own : ("field by dew person at up sheet owes falls sun takes mist column row day hour have if or and "
            + "not all min max").split(" ")) {
            bad(F + person(own), 1, 20);
            bad(F + "person " + own, 1, 20);
            if (own.length() < 6) {
                good(F + person(own + "x"), 2);
                good(F + person("x" + own), 2);
            }
            if (own.length() > 2) {
                good(F + person(own.substring(1)), 2);
                String less = own.substring(0, own.length() - 1);
                Checks.is(less + " is a name", Checks.valley(new DewWages(), F + person(less)), 2);
            }
        }
    }

    private static void lawsOnce() {
        String laws = F + "falls 1;sun 2;takes 3;";
        for (String law : new String[] {"falls", "sun", "takes"}) {
            String once = F + law + " 1;";
            bad(once + law, 6, once.length());
            bad(once + law + " 1;", 6, once.length());
            bad(once + " " + law + "99999", 6, once.length() + 1);
            bad(laws + law + " 1;", 6, laws.length());
            Checks.is("once each, " + law, Checks.valley(new DewWages(), laws), 4);
            DewWages x = new DewWages();
            Checks.valley(x, once + law);
            Checks.is("once in the next text, " + law, Checks.valley(x, once), 2);
            Checks.is("once in the text behind that, " + law, Checks.valley(x, once), 2);
        }
        good(F + repeat("mist 1;", 30) + repeat("dew 0 0 1;", 30), 61);
    }

    private static void eightyStatements() {
        for (String blank : new String[] {"", " ", "\n\n"}) {
            String most = F + repeat("dew 0 0 1;", 79) + blank;
            good(most, 80);
            for (String more : new String[] {"dew 0 0 1;", "person a at 0 0 up 0 sheet 1 owes 1;", "falls 1;", "sun 1;",
                "takes 1;", "mist 1;", F, "dew 9 9 999;", "mist"}) {
                bad(most + more, 6, most.length());
            }
        }
        String seventyNine = F + repeat("mist 1;", 78);
        good(seventyNine, 79);
        good(seventyNine + "falls 1;", 80);
        good(seventyNine + person("a"), 80);
        bad(seventyNine + F, 1, seventyNine.length());
        bad(seventyNine + "falls 1", 1, seventyNine.length() + 7);
        String laws = F + "falls 1;sun 1;takes 1;" + repeat("mist 1;", 76);
        bad(laws + "falls 1;", 6, laws.length());
    }

    // ---- which comes first, and how long it is told

    private static void firstAlongTheText() {
        bad("field 9 by 9;", 4, 6);
        bad(F + "dew 2 2 100;", 4, 17);
        bad(F + person("a") + "person a at 9", 2, 13 + person("a").length() + 7);
        bad(F + "mist 101 ?", 4, 18);
        bad(F + "? mist 101;", 1, 13);
        bad(T + "((((((((?", 5, 26);
        bad(T + "(((((((?(", 1, 26);
        bad(F + "falls 1;falls ?", 6, 21);
        bad(F + "falls ?;falls 1;", 1, 19);
        bad("dew 0 0 1;" + F, 1, 0);
        bad(person("a") + F, 1, 0);
        bad("mist 1;", 1, 0);
        bad("falls 1;", 1, 0);
        bad(F + F, 1, 13);
        bad(F + "mist 1;" + F, 1, 20);
        bad(F + "field", 1, 13);
    }

    private static void latestValleyAlone() {
        DewWages x = new DewWages();
        int[][] due = {{1, 0}, {4, 6}, {0, -1}, {2, 13 + 36 + 7}, {5, 26}, {6, 21}, {0, -1}};
        List<String> texts = new ArrayList<>(List.of("", "field 1", F, F + person("a") + "person a", T + "((((((((",
            F + "falls 1;falls", F));
        int refused = 0;
        for (int i = 0; i < texts.size(); i++) {
            Checks.valley(x, texts.get(i));
            refused += due[i][0] > 0 ? 1 : 0;
            Checks.is("fault then", x.fault(0), due[i][0]);
            Checks.is("place then", x.fault(1), due[i][1]);
            Checks.is("refused till then", x.status(1), refused);
            x.days(1);
            x.see();
            x.on();
            Checks.is("it stays ahead of the next valley()", x.fault(0), due[i][0]);
            Checks.is("and so does its place", x.fault(1), due[i][1]);
            for (int what : new int[] {-1, 2, 3, Integer.MIN_VALUE, Integer.MAX_VALUE}) {
                Checks.is("fault " + what, x.fault(what), -1);
            }
        }
    }
}
