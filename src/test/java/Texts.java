import java.util.Random;

/** Random VALLEYS, and ones with something wrong in them. */
final class Texts {
    private static final String[] WORDS = {"field", "by", "dew", "person", "at", "up", "sheet", "owes", "falls", "sun",
        "takes", "mist", "column", "row", "day", "hour", "have", "if", "or", "and", "not", "all", "min", "max", "a",
        "ab", "abcdef", "abcdefg", "0", "1", "8", "9", "99", "100", "9999", "10000", "12345", "+", "-", "*", "/", "%",
        "(", ")", "[", "]", ",", ";", "<", ">", "=", " ", "\n", "\t", "A", "@", "\u00e9", "((((((((", "[[[[[[[[",
        "not not not not not not not not ", "person a at 0 0 up 0 sheet 1 owes 0;", "falls 1;", "dew 0 0 1;",
        "takes 1;", "sun 0;"};

    private final Random random;
    private final StringBuilder b = new StringBuilder();
    private String law;
    private int depth;

    Texts(Random random) {
        this.random = random;
    }

    private int pick(int n) {
        return random.nextInt(n);
    }

    private Texts put(String s) {
        b.append(s);
        if (pick(25) == 0) {
            b.append(pick(2) == 0 ? " " : "\n");
        }
        return this;
    }

    private Texts word(String s) {
        b.append(' ').append(s).append(' ');
        return this;
    }

    String valley() {
        b.setLength(0);
        int columns = 2 + pick(pick(3) == 0 ? 7 : 3);
        int rows = 2 + pick(pick(3) == 0 ? 7 : 3);
        word("field").word("" + columns).word("by").word("" + rows).put(";");
        int people = 0;
        boolean[] laws = new boolean[3];
        int statements = pick(20) == 0 ? 70 + pick(12) : pick(16);
        for (int i = 0; i < statements && b.length() < 1300; i++) {
            int kind = pick(10);
            if (kind < 3 && people < 6) {
                person(people, columns, rows);
                people++;
            } else if (kind >= 3 && kind < 6 && !laws[kind - 3]) {
                laws[kind - 3] = true;
                law(kind - 3);
            } else if (kind == 6) {
                word("mist").word("" + pick(101)).put(";");
            } else {
                put("dew ").word("" + pick(columns)).word("" + pick(rows)).word("" + pick(100)).put(";");
            }
        }
        return b.length() > 1590 ? "field 2 by 2;" : b.toString();
    }

    private void person(int person, int columns, int rows) {
        String name = "" + (char) ('a' + person) + "bcdef".substring(0, pick(6));
        word("person").word(name).word("at").word("" + pick(columns)).word("" + pick(rows)).word("up");
        word("" + pick(pick(2) == 0 ? 3 : 9)).word("sheet").word("" + (1 + pick(99))).word("owes").word("" + pick(100));
        put(";");
    }

    private void law(int kind) {
        law = new String[] {"falls", "sun", "takes"}[kind];
        word(law);
        depth = 0;
        sum();
        put(";");
    }

    private void sum() {
        product();
        for (int n = pick(3); n > 0; n--) {
            put(pick(2) == 0 ? "+" : "-");
            product();
        }
    }

    private void product() {
        part();
        for (int n = pick(4) / 2; n > 0; n--) {
            put(new String[] {"*", "/", "%"}[pick(3)]);
            part();
        }
    }

    private void part() {
        int kind = pick(depth < 4 ? 14 : 9);
        depth++;
        switch (kind) {
            case 0: word("column"); break;
            case 1: word("row"); break;
            case 2: word("dew"); break;
            case 3: word("day"); break;
            case 4: word(law.equals("falls") ? "7" : "hour"); break;
            case 5: word(law.equals("takes") ? "have" : "3"); break;
            case 6: word(law.equals("takes") ? "sheet" : "2"); break;
            case 9: put("("); sum(); put(")"); break;
            case 10: put(pick(2) == 0 ? " min(" : " max("); sum(); put(","); sum(); put(")"); break;
            case 11:
            case 12: put(" if("); test(); put(","); sum(); put(","); sum(); put(")"); break;
            default: word("" + (pick(9) == 0 ? pick(10000) : pick(12))); break;
        }
        depth--;
    }

    private void test() {
        both();
        for (int n = pick(4) / 2; n > 0; n--) {
            word("or");
            both();
        }
    }

    private void both() {
        fact();
        for (int n = pick(4) / 2; n > 0; n--) {
            word("and");
            fact();
        }
    }

    private void fact() {
        int kind = pick(depth < 4 ? 8 : 4);
        depth++;
        switch (kind) {
            case 0: word("all"); break;
            case 4:
            case 5: word("not"); fact(); break;
            case 6: put("["); test(); put("]"); break;
            default: sum(); put(new String[] {"<", ">", "="}[pick(3)]); sum(); break;
        }
        depth--;
    }

    /** A few bytes less, other ones, or more. */
    String spoilt(String text) {
        StringBuilder s = new StringBuilder(text);
        for (int n = pick(3); n >= 0; n--) {
            int i = pick(s.length() + 1);
            int kind = pick(6);
            String word = WORDS[pick(WORDS.length)];
            if (kind == 0) {
                s.setLength(i);
            } else if (kind == 1 && i < s.length()) {
                s.deleteCharAt(i);
            } else if (kind == 2 && i < s.length()) {
                s.setCharAt(i, (char) (pick(2) == 0 ? 32 + pick(96) : pick(256)));
            } else if (kind == 3) {
                s.insert(i, word);
            } else {
                int token = s.indexOf(" ", i);
                s.insert(token < 0 ? s.length() : token, " " + word + " ");
            }
        }
        return s.length() > 1600 ? s.substring(0, 1600) : s.toString();
    }
}
