import java.util.ArrayList;
import java.util.HashMap;
import java.util.LinkedHashSet;
import java.util.List;
import java.util.Map;
import java.util.Random;
import java.util.Set;
import java.util.regex.MatchResult;
import java.util.regex.Pattern;

/**
 * Promises 4 and 5 by their definition: the document's rules as a table, and a recognizer for any such table, which
 * tells the first word or sign with which nothing goes on. It knows of no statement and looks at nothing twice, so it
 * shares no misreading of an order of looks with the class or with Model.
 */
public final class GrammarTest {
    private static final int TEXTS = 6000;
    private static final int ENOUGH = 400;
    private static final int MOST_STATEMENTS = 80;
    private static final int MOST_PEOPLE = 6;
    private static final int MOST_OPEN = 7;
    private static final Set<String> OWN_WORDS = Set.of(("field by dew person at up sheet owes falls sun takes mist column "
        + "row day hour have if or and not all min max").split(" "));
    private static final String SIGNS = "+-*/%()[],;<>=";
    private static final String NUMBER = "#";
    private static final String NAME = "NAME";
    private static final String BROKEN = "BROKEN";
    private static final Map<String, List<String[]>> RULES = rules();
    private static final Map<String, String> NUMBERS = Map.of(
        "field", "2-8 2-8", "dew", "column row 0-99", "person", "column row 0-8 1-99 0-99", "mist", "0-100");

    /** A word, a number or a sign: what the rules call it, its own bytes, where it begins, where it is at fault. */
    private record Token(String kind, String bytes, int start, int place) {
    }

    /** A rule of the table, as far as it has come, and the place in the row of tokens where it began. */
    private record Item(String head, String[] parts, int dot, int from) {
        String next() {
            return dot < parts.length ? parts[dot] : "";
        }

        Item on() {
            return new Item(head, parts, dot + 1, from);
        }
    }

    public static void main(String[] args) {
        Random random = new Random(16);
        DewWages x = new DewWages();
        int calls = 0;
        for (int i = 0; i < TEXTS && Checks.wrongs() == 0; i++) {
            String text = new Texts(random).valley();
            for (int n = random.nextInt(3); n > 0; n--) {
                text = random.nextInt(3) == 0 ? new Texts(random).spoilt(text) : otherwise(random, text);
            }
            if (calls > ENOUGH) {
                x = new DewWages();
                calls = 0;
            }
            calls += text.length() / 20 + 6;
            compare(x, text);
        }
        for (String text : told()) {
            compare(new DewWages(), text);
        }
        Checks.finish();
    }

    private static void compare(DewWages x, String text) {
        int[] due = fault(text);
        int statements = (int) text.chars().filter(c -> c == ';').count();
        Checks.is("valley() of " + text, Checks.valley(x, text), due[0] == 0 ? statements : -1);
        Checks.is("fault(0) of " + text, x.fault(0), due[0]);
        Checks.is("fault(1) of " + text, x.fault(1), due[1]);
    }

    /** Another number, another name, another fact, or a STATEMENT more: mostly nothing that the table alone tells. */
    private static String otherwise(Random random, String text) {
        String[] what = {"(?<![0-9])[0-9]+", "(?<=person )\\s*[a-z]+", "\\b(column|row|hour|have|sheet)\\b", "(?<=;)"};
        String[][] instead = {{"0", "1", "2", "8", "9", "99", "100", "101", "0008"}, {"a", "bbcdef", "c", "zz"},
            {"column", "dew", "day", "hour", "have", "sheet", "owes"}, {"falls 1;", "sun 1;", "takes 1;", "dew 1 1 1;",
                "mist 1;", "person q at 1 1 up 1 sheet 1 owes 1;", "field 2 by 2;",
                "takes if(not[not(1)=((1))and[not not all]],1,2);"}};
        int kind = random.nextInt(what.length);
        List<MatchResult> found = Pattern.compile(what[kind]).matcher(text).results().toList();
        String put = instead[kind][random.nextInt(instead[kind].length)];
        if (found.isEmpty() || text.length() + put.length() > 1600) {
            return text;
        }
        MatchResult one = found.get(random.nextInt(found.size()));
        return text.substring(0, one.start()) + put + text.substring(one.end());
    }

    /** Texts that chance seldom makes: the 81st STATEMENT, whatever it is; not, open until its FACT ends. */
    private static List<String> told() {
        List<String> texts = new ArrayList<>();
        String eighty = "field 2 by 2;" + "mist 1;".repeat(79);
        for (String more : "; mist falls field a abcdefgh 1 12345 ( ? mist7 person dew".split(" ")) {
            texts.add(eighty + more);
            texts.add(eighty + " " + more + " ;");
            texts.add(eighty.substring(7) + more);
            texts.add(eighty.substring(0, eighty.length() - 7) + more);
        }
        String sum = "field 2 by 2;sun if(";
        for (String fact : new String[] {"all", "[all]", "1<2", "if(all,1,2)>min(1,2)", "[not all]", "not[all or all]"}) {
            for (int nots = 0; nots < 8; nots++) {
                String facts = "not ".repeat(nots) + fact;
                texts.add(sum + facts + " and " + facts + " or [" + facts + "],(" + nots + "),(1));");
                texts.add(sum + facts + " or not not not not not not " + fact + ",1,2);");
                texts.add(sum + "[".repeat(nots) + fact + "]".repeat(nots) + " and " + facts + ",1,2);");
                texts.add("field 2 by 2;sun " + "(".repeat(nots) + "if(" + facts + ",1,2)" + ")".repeat(nots) + ";");
            }
        }
        return texts;
    }

    // ---- the table

    private static Map<String, List<String[]>> rules() {
        Map<String, List<String[]>> rules = new HashMap<>();
        rule(rules, "VALLEY", "field # by # ;", "VALLEY STATEMENT ;");
        rule(rules, "STATEMENT", "dew # # #", "person NAME at # # up # sheet # owes #", "mist #",
            "falls SUM.falls", "sun SUM.sun", "takes SUM.takes");
        for (String law : new String[] {".falls", ".sun", ".takes"}) {
            law(rules, law, "SUM", "PRODUCT", "SUM + PRODUCT", "SUM - PRODUCT");
            law(rules, law, "PRODUCT", "PART", "PRODUCT * PART", "PRODUCT / PART", "PRODUCT % PART");
            law(rules, law, "PART", "#", "column", "row", "dew", "day", "( SUM )", "min ( SUM , SUM )",
                "max ( SUM , SUM )", "if ( TEST , SUM , SUM )");
            law(rules, law, "TEST", "BOTH", "TEST or BOTH");
            law(rules, law, "BOTH", "FACT", "BOTH and FACT");
            law(rules, law, "FACT", "not FACT", "[ TEST ]", "all", "SUM < SUM", "SUM > SUM", "SUM = SUM");
        }
        rule(rules, "PART.sun", "hour");
        rule(rules, "PART.takes", "hour", "have", "sheet");
        return rules;
    }

    private static void rule(Map<String, List<String[]>> rules, String head, String... told) {
        for (String one : told) {
            rules.computeIfAbsent(head, h -> new ArrayList<>()).add(one.split(" "));
        }
    }

    /** What falls, sun and takes have in common, each with its own PARTS. */
    private static void law(Map<String, List<String[]>> rules, String law, String head, String... told) {
        for (String one : told) {
            rule(rules, head + law, one.replaceAll("(SUM|PRODUCT|PART|TEST|BOTH|FACT)", "$1" + law));
        }
    }

    // ---- the recognizer (Earley's)

    /** The first token with which nothing goes on; their number if there is none such, and -1 if they are a VALLEY. */
    private static int firstAstray(List<Token> tokens) {
        List<Set<Item>> all = new ArrayList<>();
        Set<Item> now = new LinkedHashSet<>();
        for (String[] parts : RULES.get("VALLEY")) {
            now.add(new Item("VALLEY", parts, 0, 0));
        }
        for (int i = 0; i <= tokens.size(); i++) {
            all.add(now);
            List<Item> work = new ArrayList<>(now);
            Set<Item> then = new LinkedHashSet<>();
            for (int k = 0; k < work.size(); k++) {
                for (Item item : follow(work.get(k), i, all)) {
                    if (now.add(item)) {
                        work.add(item);
                    }
                }
                if (i < tokens.size() && work.get(k).next().equals(tokens.get(i).kind)) {
                    then.add(work.get(k).on());
                }
            }
            if (then.isEmpty()) {
                return i == tokens.size() && isWhole(now) ? -1 : i;
            }
            now = then;
        }
        return tokens.size();
    }

    private static List<Item> follow(Item item, int place, List<Set<Item>> all) {
        List<Item> more = new ArrayList<>();
        if (item.next().isEmpty()) {
            for (Item waiting : all.get(item.from)) {
                if (waiting.next().equals(item.head)) {
                    more.add(waiting.on());
                }
            }
        } else {
            for (String[] parts : RULES.getOrDefault(item.next(), List.of())) {
                more.add(new Item(item.next(), parts, 0, place));
            }
        }
        return more;
    }

    private static boolean isWhole(Set<Item> items) {
        for (Item item : items) {
            if (item.head.equals("VALLEY") && item.from == 0 && item.next().isEmpty()) {
                return true;
            }
        }
        return false;
    }

    // ---- words, numbers, signs

    private static List<Token> tokens(String text) {
        List<Token> tokens = new ArrayList<>();
        int i = 0;
        boolean blank = true;
        while (i < text.length()) {
            char c = text.charAt(i);
            if (c == ' ' || c == '\n') {
                blank = true;
                i++;
                continue;
            }
            Token last = tokens.isEmpty() ? null : tokens.get(tokens.size() - 1);
            Token token = tokenAt(text, i, !blank && last != null && SIGNS.indexOf(last.bytes.charAt(0)) < 0);
            tokens.add(token);
            if (token.kind.equals(BROKEN)) {
                return tokens;
            }
            i += token.bytes.length();
            blank = false;
        }
        return tokens;
    }

    private static Token tokenAt(String text, int start, boolean needsBlank) {
        String rest = text.substring(start);
        String letters = rest.replaceFirst("(?s)[^a-z].*", "");
        String digits = rest.replaceFirst("(?s)[^0-9].*", "");
        String run = letters + digits;
        if (run.isEmpty()) {
            String sign = rest.substring(0, 1);
            return new Token(SIGNS.contains(sign) ? sign : BROKEN, sign, start, start);
        }
        int most = letters.isEmpty() ? 4 : 6;
        if (needsBlank || run.length() > most) {
            return new Token(BROKEN, run, start, needsBlank ? start : start + most);
        }
        String kind = !digits.isEmpty() ? NUMBER : OWN_WORDS.contains(run) ? run : NAME;
        return new Token(kind, run, start, start);
    }

    // ---- the FAULTS, each looked for by itself; the first along the text counts

    /** The FAULT and its place; 0 and -1 without. At one place a FAULT of its own goes ahead of FAULT 1. */
    private static int[] fault(String text) {
        List<Token> tokens = tokens(text);
        int astray = firstAstray(tokens);
        int[] best = {0, -1};
        if (astray >= 0) {
            best = new int[] {1, astray < tokens.size() ? tokens.get(astray).place : text.length()};
        }
        List<Token> sound = tokens.subList(0, astray >= 0 ? astray : tokens.size());
        best = earlier(best, 2, nameAgain(sound));
        best = earlier(best, 4, numberThatCannotBe(sound));
        best = earlier(best, 5, eighthOpen(sound));
        best = earlier(best, 6, oneTooMany(sound));
        return earlier(best, 6, statement81(tokens));
    }

    private static int[] earlier(int[] best, int kind, int place) {
        boolean isEarlier = place >= 0 && (best[0] == 0 || place < best[1] || place == best[1] && best[0] == 1);
        return isEarlier ? new int[] {kind, place} : best;
    }

    private static int nameAgain(List<Token> tokens) {
        Set<String> names = new LinkedHashSet<>();
        for (Token token : tokens) {
            if (token.kind.equals(NAME) && !names.add(token.bytes)) {
                return token.place;
            }
        }
        return -1;
    }

    private static int numberThatCannotBe(List<Token> tokens) {
        String[] bounds = {};
        int[] sides = new int[2];
        int numbers = 0;
        int statements = 0;
        for (int i = 0; i < tokens.size(); i++) {
            Token token = tokens.get(i);
            if (i == 0 || tokens.get(i - 1).kind.equals(";")) {
                bounds = NUMBERS.getOrDefault(token.kind, "").split(" ");
                numbers = 0;
                statements++;
            } else if (token.kind.equals(NUMBER) && !bounds[0].isEmpty()) {
                int number = Integer.parseInt(token.bytes);
                if (!isWithin(number, bounds[numbers], sides)) {
                    return token.place;
                }
                if (statements == 1) {
                    sides[numbers] = number;
                }
                numbers++;
            }
        }
        return -1;
    }

    private static boolean isWithin(int number, String bound, int[] sides) {
        if (bound.equals("column") || bound.equals("row")) {
            return number < sides[bound.equals("column") ? 0 : 1];
        }
        String[] ends = bound.split("-");
        return number >= Integer.parseInt(ends[0]) && number <= Integer.parseInt(ends[1]);
    }

    /** A not is open until its FACT ends: with all, with ], or ahead of what can stand behind a FACT alone. */
    private static int eighthOpen(List<Token> tokens) {
        List<String> open = new ArrayList<>();
        for (Token token : tokens) {
            String kind = token.kind;
            if (Set.of("and", "or", ",", "]", "all").contains(kind)) {
                endNots(open);
            }
            if (Set.of("(", "[", "not").contains(kind)) {
                if (open.size() == MOST_OPEN) {
                    return token.place;
                }
                open.add(kind);
            } else if (kind.equals(")") || kind.equals("]")) {
                open.remove(open.size() - 1);
            }
            if (kind.equals("]")) {
                endNots(open);
            }
        }
        return -1;
    }

    private static void endNots(List<String> open) {
        while (!open.isEmpty() && open.get(open.size() - 1).equals("not")) {
            open.remove(open.size() - 1);
        }
    }

    private static int oneTooMany(List<Token> tokens) {
        Map<String, Integer> most = Map.of("person", MOST_PEOPLE, "falls", 1, "sun", 1, "takes", 1);
        Map<String, Integer> count = new HashMap<>();
        for (int i = 0; i < tokens.size(); i++) {
            String kind = tokens.get(i).kind;
            boolean begins = i == 0 || tokens.get(i - 1).kind.equals(";");
            if (begins && most.containsKey(kind) && count.merge(kind, 1, Integer::sum) > most.get(kind)) {
                return tokens.get(i).place;
            }
        }
        return -1;
    }

    /** Its first byte, whatever it is. */
    private static int statement81(List<Token> tokens) {
        int statements = 0;
        for (Token token : tokens) {
            if (statements == MOST_STATEMENTS) {
                return token.start;
            }
            statements += token.kind.equals(";") ? 1 : 0;
        }
        return -1;
    }
}
