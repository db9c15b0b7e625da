import java.util.ArrayDeque;
import java.util.ArrayList;
import java.util.Arrays;
import java.util.Deque;
import java.util.List;
import java.util.Map;
import java.util.TreeMap;
import java.util.HashMap;

/**
 * The document once more, told by trees, lambdas, exceptions and plain search, without any memory of answers:
 * what it and the class answer differently is wrong in one of them.
 */
final class Model {
    static final class Fault extends RuntimeException {
        final int kind;
        final int place;

        Fault(int kind, int place) {
            super(null, null, false, false);
            this.kind = kind;
            this.place = place;
        }
    }

    /** What a SUM may ask for. */
    static final class Env {
        int column;
        int row;
        int dew;
        int day;
        int hour;
        int have;
        int sheet;
    }

    interface Num {
        long in(Env e);
    }

    interface Yes {
        boolean in(Env e);
    }

    static final class Person implements Cloneable {
        String name;
        int column;
        int row;
        int up;
        int sheet;
        int owes;
        int purse;
        int atColumn;
        int atRow;
        int have;

        Person copy() {
            try {
                return (Person) clone();
            } catch (CloneNotSupportedException e) {
                throw new AssertionError(e);
            }
        }
    }

    static final class World {
        int columns;
        int rows;
        int day;
        int[][] dew = new int[0][0];
        List<Person> people = new ArrayList<>();
        List<int[]> kept = new ArrayList<>();
        Num falls = e -> 5;
        Num sun = e -> 1;
        Num takes = e -> 9;
        int mist;
        int statements;

        World copy() {
            World w = new World();
            w.columns = columns;
            w.rows = rows;
            w.day = day;
            w.dew = new int[columns][];
            for (int c = 0; c < columns; c++) {
                w.dew[c] = dew[c].clone();
            }
            for (Person p : people) {
                w.people.add(p.copy());
            }
            w.kept = new ArrayList<>(kept);
            w.falls = falls;
            w.sun = sun;
            w.takes = takes;
            w.mist = mist;
            w.statements = statements;
            return w;
        }
    }

    // ---- the parser: a byte at a time, no token ahead of its time

    static final class Parser {
        static final List<String> OWN = Arrays.asList("field", "by", "dew", "person", "at", "up", "sheet", "owes",
            "falls", "sun", "takes", "mist", "column", "row", "day", "hour", "have", "if", "or", "and", "not", "all",
            "min", "max");
        final int[] text;
        int i;
        int open;
        String law;
        World w = new World();
        boolean hasFalls;
        boolean hasSun;
        boolean hasTakes;

        Parser(int[] text) {
            this.text = text;
        }

        int at(int k) {
            return k < text.length ? text[k] : -1;
        }

        static boolean letter(int c) {
            return c >= 'a' && c <= 'z';
        }

        static boolean digit(int c) {
            return c >= '0' && c <= '9';
        }

        void blanks() {
            while (at(i) == 10 || at(i) == 32) {
                i++;
            }
        }

        /** The word or number that is next, without taking it; "" at a sign or at the end. */
        String peek() {
            int was = i;
            blanks();
            int k = i;
            while (letter(at(i)) ? letter(at(k)) : digit(at(i)) && digit(at(k))) {
                k++;
            }
            boolean glued = k > i && was == i && was > 0 && (letter(at(was - 1)) || digit(at(was - 1)));
            if (glued) {
                throw new Fault(1, i);
            }
            int most = letter(at(i)) ? 6 : 4;
            if (k - i > most) {
                throw new Fault(1, i + most);
            }
            StringBuilder b = new StringBuilder();
            for (int m = i; m < k; m++) {
                b.append((char) at(m));
            }
            return b.toString();
        }

        void word(String wanted) {
            if (!peek().equals(wanted)) {
                throw new Fault(1, i);
            }
            i += wanted.length();
        }

        boolean isSign(char c) {
            peek();
            return at(i) == c;
        }

        void sign(char c) {
            if (!isSign(c)) {
                throw new Fault(1, i);
            }
            i++;
        }

        int number(int least, int most) {
            String s = peek();
            if (s.isEmpty() || !digit(s.charAt(0))) {
                throw new Fault(1, i);
            }
            int n = Integer.parseInt(s);
            if (n < least || n > most) {
                throw new Fault(4, i);
            }
            i += s.length();
            return n;
        }

        World parse() {
            word("field");
            w.columns = number(2, 8);
            word("by");
            w.rows = number(2, 8);
            w.dew = new int[w.columns][w.rows];
            sign(';');
            w.statements = 1;
            while (true) {
                blanks();
                if (i >= text.length) {
                    return w;
                }
                if (w.statements == 80) {
                    throw new Fault(6, i);
                }
                statement();
                sign(';');
                w.statements++;
            }
        }

        void statement() {
            String s = peek();
            int place = i;
            if (s.equals("dew")) {
                i += 3;
                int c = number(0, w.columns - 1);
                int r = number(0, w.rows - 1);
                w.dew[c][r] = number(0, 99);
            } else if (s.equals("person")) {
                if (w.people.size() == 6) {
                    throw new Fault(6, place);
                }
                i += 6;
                person();
            } else if (s.equals("falls") || s.equals("sun") || s.equals("takes")) {
                law(s, place);
            } else if (s.equals("mist")) {
                i += 4;
                w.mist = number(0, 100);
            } else {
                throw new Fault(1, place);
            }
        }

        void law(String s, int place) {
            if (s.equals("falls") ? hasFalls : s.equals("sun") ? hasSun : hasTakes) {
                throw new Fault(6, place);
            }
            i += s.length();
            law = s;
            Num n = sum();
            if (s.equals("falls")) {
                hasFalls = true;
                w.falls = n;
            } else if (s.equals("sun")) {
                hasSun = true;
                w.sun = n;
            } else {
                hasTakes = true;
                w.takes = n;
            }
        }

        void person() {
            Person p = new Person();
            p.name = peek();
            if (p.name.isEmpty() || digit(p.name.charAt(0)) || OWN.contains(p.name)) {
                throw new Fault(1, i);
            }
            for (Person q : w.people) {
                if (q.name.equals(p.name)) {
                    throw new Fault(2, i);
                }
            }
            i += p.name.length();
            word("at");
            p.column = number(0, w.columns - 1);
            p.row = number(0, w.rows - 1);
            word("up");
            p.up = number(0, 8);
            word("sheet");
            p.sheet = number(1, 99);
            word("owes");
            p.owes = number(0, 99);
            w.people.add(p);
        }

        static long bound(long n) {
            return n > 1000000 ? 1000000 : n < -1000000 ? -1000000 : n;
        }

        static long over(long a, long b) {
            if (b == 0) {
                return 0;
            }
            long q = a / b;
            return a % b != 0 && (a < 0) != (b < 0) ? q - 1 : q;
        }

        Num sum() {
            Num n = product();
            while (isSign('+') || isSign('-')) {
                boolean plus = at(i) == '+';
                i++;
                Num a = n;
                Num b = product();
                n = plus ? e -> bound(a.in(e) + b.in(e)) : e -> bound(a.in(e) - b.in(e));
            }
            return n;
        }

        Num product() {
            Num n = part();
            while (isSign('*') || isSign('/') || isSign('%')) {
                int c = at(i);
                i++;
                Num a = n;
                Num b = part();
                if (c == '*') {
                    n = e -> bound(a.in(e) * b.in(e));
                } else if (c == '/') {
                    n = e -> bound(over(a.in(e), b.in(e)));
                } else {
                    n = e -> b.in(e) == 0 ? 0 : bound(a.in(e) - b.in(e) * over(a.in(e), b.in(e)));
                }
            }
            return n;
        }

        void open(char c) {
            if (isSign(c) && open == 7) {
                throw new Fault(5, i);
            }
            sign(c);
            open++;
        }

        void close(char c) {
            sign(c);
            open--;
        }

        Num part() {
            String s = peek();
            if (s.isEmpty()) {
                open('(');
                Num n = sum();
                close(')');
                return n;
            }
            if (digit(s.charAt(0))) {
                int n = number(0, 9999);
                return e -> n;
            }
            boolean takes = law.equals("takes");
            Num n = s.equals("column") ? e -> e.column
                : s.equals("row") ? e -> e.row
                : s.equals("dew") ? e -> e.dew
                : s.equals("day") ? e -> e.day
                : s.equals("hour") && !law.equals("falls") ? e -> e.hour
                : s.equals("have") && takes ? e -> e.have
                : s.equals("sheet") && takes ? e -> e.sheet
                : null;
            if (n != null) {
                i += s.length();
                return n;
            }
            if (!s.equals("min") && !s.equals("max") && !s.equals("if")) {
                throw new Fault(1, i);
            }
            i += s.length();
            open('(');
            Yes t = s.equals("if") ? test() : null;
            if (t != null) {
                sign(',');
            }
            Num a = sum();
            sign(',');
            Num b = sum();
            close(')');
            if (t != null) {
                return e -> t.in(e) ? a.in(e) : b.in(e);
            }
            return s.equals("min") ? e -> Math.min(a.in(e), b.in(e)) : e -> Math.max(a.in(e), b.in(e));
        }

        Yes test() {
            Yes y = both();
            while (peek().equals("or")) {
                i += 2;
                Yes a = y;
                Yes b = both();
                y = e -> a.in(e) || b.in(e);
            }
            return y;
        }

        Yes both() {
            Yes y = fact();
            while (peek().equals("and")) {
                i += 3;
                Yes a = y;
                Yes b = fact();
                y = e -> a.in(e) && b.in(e);
            }
            return y;
        }

        Yes fact() {
            String s = peek();
            if (s.equals("not")) {
                if (open == 7) {
                    throw new Fault(5, i);
                }
                open++;
                i += 3;
                Yes y = fact();
                open--;
                return e -> !y.in(e);
            }
            if (s.equals("all")) {
                i += 3;
                return e -> true;
            }
            if (isSign('[')) {
                open('[');
                Yes y = test();
                close(']');
                return y;
            }
            Num a = sum();
            char c = isSign('<') ? '<' : isSign('>') ? '>' : '=';
            sign(c);
            Num b = sum();
            return c == '<' ? e -> a.in(e) < b.in(e) : c == '>' ? e -> a.in(e) > b.in(e) : e -> a.in(e) == b.in(e);
        }
    }

    // ---- a day

    /** Whom the day's rules don't move: the person, and his steps from the hour at which he is up. */
    static final class Forced {
        int person = -1;
        int[] steps = new int[0];
    }

    static final int[] STEP_COLUMN = {0, -1, 1, 0, 0};
    static final int[] STEP_ROW = {0, 0, 0, -1, 1};

    static boolean there(World w, int c, int r) {
        return c >= 0 && c < w.columns && r >= 0 && r < w.rows;
    }

    static Env env(World w, int c, int r, int hour) {
        Env e = new Env();
        e.column = c;
        e.row = r;
        e.dew = w.dew[c][r];
        e.day = w.day;
        e.hour = hour;
        return e;
    }

    static void dawn(World w, int times) {
        for (int c = 0; c < w.columns; c++) {
            for (int r = 0; r < w.rows; r++) {
                long more = Math.max(0, w.falls.in(env(w, c, r, 0)));
                w.dew[c][r] = (int) Math.min(99, w.dew[c][r] + more * times);
            }
        }
        for (Person p : w.people) {
            p.atColumn = p.column;
            p.atRow = p.row;
            p.have = 0;
        }
    }

    /** False when a forced step leads to no cell. */
    static boolean hour(World w, int hour, int walkers, Forced forced) {
        for (int k = 0; k < w.people.size(); k++) {
            Person p = w.people.get(k);
            if (p.up > hour || (walkers & 1 << k) == 0) {
                continue;
            }
            int step = 0;
            int n = hour - p.up;
            if (forced.person == k && n < forced.steps.length) {
                step = forced.steps[n];
            } else {
                int most = w.dew[p.atColumn][p.atRow];
                for (int s = 1; s < 5; s++) {
                    int c = p.atColumn + STEP_COLUMN[s];
                    int r = p.atRow + STEP_ROW[s];
                    if (there(w, c, r) && w.dew[c][r] > most) {
                        most = w.dew[c][r];
                        step = s;
                    }
                }
            }
            p.atColumn += STEP_COLUMN[step];
            p.atRow += STEP_ROW[step];
            if (!there(w, p.atColumn, p.atRow)) {
                return false;
            }
            Env e = env(w, p.atColumn, p.atRow, hour);
            e.have = p.have;
            e.sheet = p.sheet;
            long wrung = Math.max(0, w.takes.in(e));
            wrung = Math.min(wrung, Math.min(e.dew, p.sheet - p.have));
            p.have += wrung;
            w.dew[p.atColumn][p.atRow] -= wrung;
        }
        for (int c = 0; c < w.columns; c++) {
            for (int r = 0; r < w.rows; r++) {
                w.dew[c][r] -= Math.min(w.dew[c][r], Math.max(0, w.sun.in(env(w, c, r, hour))));
            }
        }
        return true;
    }

    /** The world behind an hour of today (-1: ahead of hour 0). */
    static World behind(World w, int hour, int walkers) {
        World x = w.copy();
        dawn(x, 1);
        for (int h = 0; h <= hour; h++) {
            hour(x, h, walkers, new Forced());
        }
        return x;
    }

    static int wrung(World w) {
        int sum = 0;
        for (Person p : w.people) {
            sum += p.have;
        }
        return sum;
    }

    /** Lives a day; who was dry as bits. */
    static int live(World w, boolean mist) {
        dawn(w, mist ? 2 : 1);
        for (int h = 0; h < 9; h++) {
            hour(w, h, 63, new Forced());
        }
        int dry = 0;
        for (int k = 0; k < w.people.size(); k++) {
            Person p = w.people.get(k);
            int both = p.have + p.purse;
            if (both < p.owes) {
                dry |= 1 << k;
                p.purse = 0;
            } else {
                p.purse = Math.min(999, both - p.owes);
            }
        }
        w.kept.add(new int[] {w.day, wrung(w), Integer.bitCount(dry)});
        while (w.kept.size() > 40) {
            w.kept.remove(0);
        }
        w.day = Math.min(999, w.day + 1);
        return dry;
    }

    // ---- the face

    final List<Integer> tape = new ArrayList<>();
    World w = new World();
    Deque<World> acts = new ArrayDeque<>();
    List<int[]> seen = new ArrayList<>();
    int[] image = new int[0];
    final int[] refused = new int[6];
    int fault;
    int place = -1;
    long seed = 1;

    int refuse(int kind) {
        refused[kind]++;
        return -1;
    }

    int[] takeTape() {
        int[] row = new int[tape.size()];
        for (int i = 0; i < row.length; i++) {
            row[i] = tape.get(i);
        }
        tape.clear();
        return row;
    }

    boolean isPerson(int p) {
        return p >= 0 && p < w.people.size();
    }

    int feed(int a, int b, int c, int d, int e) {
        if (tape.size() > 1580) {
            return refuse(0);
        }
        for (int n : new int[] {a, b, c, d, e}) {
            tape.add(n >>> 24);
            tape.add(n >>> 16 & 255);
            tape.add(n >>> 8 & 255);
            tape.add(n & 255);
        }
        return tape.size();
    }

    boolean end(int n) {
        if (n < 0 || n > tape.size()) {
            return refuse(0) == 0;
        }
        while (tape.size() > n) {
            tape.remove(tape.size() - 1);
        }
        return true;
    }

    int valley() {
        try {
            w = new Parser(takeTape()).parse();
        } catch (Fault f) {
            fault = f.kind;
            place = f.place;
            return refuse(1);
        }
        fault = 0;
        place = -1;
        acts.clear();
        seen.clear();
        return w.statements;
    }

    int fault(int what) {
        return what == 0 ? fault : what == 1 ? place : -1;
    }

    int has(int what) {
        int dew = 0;
        for (int[] column : w.dew) {
            for (int d : column) {
                dew += d;
            }
        }
        int purses = 0;
        for (Person p : w.people) {
            purses += p.purse;
        }
        int[] all = {w.columns, w.rows, w.people.size(), w.day, dew, purses, w.kept.size(), seen.size(), acts.size(),
            (int) seed};
        return what < 0 || what >= all.length ? -1 : all[what];
    }

    int letter(int p, int k) {
        if (!isPerson(p) || k < 0 || k > 5) {
            return -1;
        }
        String name = w.people.get(p).name;
        return k < name.length() ? name.charAt(k) - 96 : 0;
    }

    int cell(int c, int r) {
        return there(w, c, r) ? w.dew[c][r] : -1;
    }

    int person(int p, int what) {
        if (!isPerson(p) || what < 0 || what > 5) {
            return -1;
        }
        Person q = w.people.get(p);
        return new int[] {q.column, q.row, q.up, q.sheet, q.owes, q.purse}[what];
    }

    int today(int p, int hour, int what) {
        if (!isPerson(p) || hour < 0 || hour > 8 || what < 0 || what > 2) {
            return -1;
        }
        Person q = behind(w, hour, 63).people.get(p);
        return what == 0 ? q.atColumn : what == 1 ? q.atRow : q.have;
    }

    int dew(int c, int r, int hour) {
        return there(w, c, r) && hour >= -1 && hour <= 8 ? behind(w, hour, 63).dew[c][r] : -1;
    }

    int up(int p, int what) {
        if (!isPerson(p) || what < 0 || what > 1) {
            return -1;
        }
        int[] best = {-1, -1};
        for (int hour = 0; hour < 9; hour++) {
            World x = w.copy();
            x.people.get(p).up = hour;
            int have = behind(x, 8, 63).people.get(p).have;
            if (have > best[1]) {
                best = new int[] {hour, have};
            }
        }
        return best[what];
    }

    int home(int p, int what) {
        if (!isPerson(p) || what < 0 || what > 2) {
            return -1;
        }
        int[] best = {-1, -1, -1};
        for (int r = 0; r < w.rows; r++) {
            for (int c = 0; c < w.columns; c++) {
                World x = w.copy();
                x.people.get(p).column = c;
                x.people.get(p).row = r;
                int have = behind(x, 8, 63).people.get(p).have;
                if (have > best[2]) {
                    best = new int[] {c, r, have};
                }
            }
        }
        return best[what];
    }

    int way(int p, int n, int k) {
        if (!isPerson(p) || n < 1 || n > 5 || w.people.get(p).up + n > 9 || k < -1 || k >= n) {
            return -1;
        }
        Forced best = null;
        int most = -1;
        int rows = (int) Math.round(Math.pow(5, n));
        for (int row = 0; row < rows; row++) {
            Forced f = new Forced();
            f.person = p;
            f.steps = new int[n];
            for (int i = n - 1, left = row; i >= 0; i--, left /= 5) {
                f.steps[i] = left % 5;
            }
            int have = behindForced(f, w.people.get(p).up + n - 1);
            if (have > most) {
                most = have;
                best = f;
            }
        }
        return k == -1 ? most : best.steps[k];
    }

    /** What the forced one has behind the hour; -1 when a step leads nowhere. */
    int behindForced(Forced f, int last) {
        World x = w.copy();
        dawn(x, 1);
        for (int h = 0; h <= last; h++) {
            if (!hour(x, h, 63, f)) {
                return -1;
            }
        }
        return x.people.get(f.person).have;
    }

    int changed(int what) {
        int[] best = {-1, -1, wrung(behind(w, 8, 63))};
        for (int a = 0; a < w.people.size(); a++) {
            for (int b = a + 1; b < w.people.size(); b++) {
                World x = w.copy();
                x.people.get(a).sheet = w.people.get(b).sheet;
                x.people.get(b).sheet = w.people.get(a).sheet;
                int all = wrung(behind(x, 8, 63));
                if (all > best[2]) {
                    best = new int[] {a, b, all};
                }
            }
        }
        return best[0] < 0 || what < 0 || what > 2 ? -1 : best[what];
    }

    World ahead(int n) {
        World x = w.copy();
        for (int i = 0; i < n; i++) {
            live(x, false);
        }
        return x;
    }

    int later(int c, int r, int n) {
        return !there(w, c, r) || n < 0 || n > 40 || w.day + n > 999 ? -1 : ahead(n).dew[c][r];
    }

    int purse(int p, int n) {
        return !isPerson(p) || n < 0 || n > 40 || w.day + n > 999 ? -1 : ahead(n).people.get(p).purse;
    }

    int dry(int p) {
        World x = w.copy();
        for (int i = 0; isPerson(p) && i < 40 && w.day + i <= 999; i++) {
            if ((live(x, false) >> p & 1) == 1) {
                return i;
            }
        }
        return -1;
    }

    int see() {
        int[] row = takeTape();
        List<int[]> rows = new ArrayList<>();
        if (row.length % 4 != 0 || row.length == 0 || row.length > 64) {
            return refuse(5);
        }
        for (int i = 0; i < row.length; i += 4) {
            if (row[i] > 8 || !there(w, row[i + 1], row[i + 2]) || row[i + 3] > 99) {
                return refuse(5);
            }
            rows.add(Arrays.copyOfRange(row, i, i + 4));
        }
        seen = rows;
        return rows.size();
    }

    /** Behind each hour the dew, for each set by which all that was seen is so. */
    Map<Integer, World[]> sets() {
        Map<Integer, World[]> good = new TreeMap<>();
        for (int set = 0; set < 1 << w.people.size(); set++) {
            World[] hours = new World[9];
            for (int h = 0; h < 9; h++) {
                hours[h] = behind(w, h, set);
            }
            boolean so = true;
            for (int[] s : seen) {
                so = so && hours[s[0]].dew[s[1]][s[2]] == s[3];
            }
            if (so) {
                good.put(set, hours);
            }
        }
        return good;
    }

    int walkers(int what) {
        Map<Integer, World[]> good = sets();
        return what == 0 ? good.size() : what == 1 && !good.isEmpty() ? good.keySet().iterator().next() : -1;
    }

    int tells(int what) {
        Map<Integer, World[]> good = sets();
        if (what < 0 || what > 3 || good.isEmpty() || w.columns == 0) {
            return -1;
        }
        int[] best = {-1, -1, -1, 65};
        for (int h = 0; h < 9; h++) {
            for (int r = 0; r < w.rows; r++) {
                for (int c = 0; c < w.columns; c++) {
                    Map<Integer, Integer> left = new HashMap<>();
                    int most = 0;
                    for (World[] hours : good.values()) {
                        most = Math.max(most, left.merge(hours[h].dew[c][r], 1, Integer::sum));
                    }
                    if (most < best[3]) {
                        best = new int[] {h, c, r, most};
                    }
                }
            }
        }
        return best[what];
    }

    void act() {
        acts.addLast(w.copy());
        if (acts.size() > 20) {
            acts.removeFirst();
        }
    }

    int days(int n) {
        if (n < 1 || n > 40 || w.day + n > 999) {
            return refuse(2);
        }
        act();
        int sum = 0;
        for (int i = 0; i < n; i++) {
            live(w, false);
            sum += wrung(w);
        }
        return sum;
    }

    int chance(int n) {
        if (n < 1 || n > 40 || w.day + n > 999) {
            return refuse(2);
        }
        act();
        int mists = 0;
        for (int i = 0; i < n; i++) {
            seed = (1103515245L * seed + 12345) & 0x7fffffffL;
            boolean mist = (seed >> 6) % 100 < w.mist;
            mists += mist ? 1 : 0;
            live(w, mist);
        }
        return mists;
    }

    boolean rise(int p, int hour) {
        if (!isPerson(p) || hour < 0 || hour > 8 || w.people.get(p).up == hour) {
            return refuse(3) == 0;
        }
        act();
        w.people.get(p).up = hour;
        return true;
    }

    boolean move(int p, int c, int r) {
        if (!isPerson(p) || !there(w, c, r) || w.people.get(p).column == c && w.people.get(p).row == r) {
            return refuse(3) == 0;
        }
        act();
        w.people.get(p).column = c;
        w.people.get(p).row = r;
        return true;
    }

    boolean weave(int p, int sheet) {
        if (!isPerson(p) || sheet < 1 || sheet > 99 || w.people.get(p).sheet == sheet) {
            return refuse(3) == 0;
        }
        act();
        w.people.get(p).sheet = sheet;
        return true;
    }

    boolean undo() {
        if (acts.isEmpty()) {
            return refuse(4) == 0;
        }
        w = acts.removeLast();
        return true;
    }

    boolean seed(int s) {
        if (s < 0) {
            return refuse(5) == 0;
        }
        seed = s;
        return true;
    }

    int kept(int k, int what) {
        return k < 0 || k >= w.kept.size() || what < 0 || what > 2 ? -1 : w.kept.get(k)[what];
    }

    static int check(List<Integer> bytes) {
        int c = 223;
        for (int b : bytes) {
            c = (5 * c + b) % 251;
        }
        return c;
    }

    int image() {
        List<Integer> b = new ArrayList<>(List.of(w.day >> 8, w.day & 255));
        for (int r = 0; r < w.rows; r++) {
            for (int c = 0; c < w.columns; c++) {
                b.add(w.dew[c][r]);
            }
        }
        for (Person p : w.people) {
            b.addAll(List.of(p.column, p.row, p.up, p.sheet, p.purse >> 8, p.purse & 255));
        }
        b.add(check(b));
        image = b.stream().mapToInt(Integer::intValue).toArray();
        return image.length;
    }

    int octet(int k) {
        return k < 0 || k >= image.length ? -1 : image[k];
    }

    boolean on() {
        List<Integer> b = new ArrayList<>(tape);
        tape.clear();
        int cells = w.columns * w.rows;
        if (b.size() != 3 + cells + 6 * w.people.size() || check(b.subList(0, b.size() - 1)) != b.get(b.size() - 1)) {
            return refuse(5) == 0;
        }
        World x = w.copy();
        x.kept.clear();
        x.day = 256 * b.get(0) + b.get(1);
        boolean good = x.day <= 999;
        int i = 2;
        for (int r = 0; r < w.rows; r++) {
            for (int c = 0; c < w.columns; c++) {
                x.dew[c][r] = b.get(i++);
                good &= x.dew[c][r] <= 99;
            }
        }
        for (Person p : x.people) {
            p.column = b.get(i);
            p.row = b.get(i + 1);
            p.up = b.get(i + 2);
            p.sheet = b.get(i + 3);
            p.purse = 256 * b.get(i + 4) + b.get(i + 5);
            i += 6;
            good &= there(x, p.column, p.row) && p.up < 9 && p.sheet > 0 && p.sheet < 100 && p.purse < 1000;
        }
        if (!good) {
            return refuse(5) == 0;
        }
        w = x;
        acts.clear();
        return true;
    }

    int status(int what) {
        return what < 0 || what > 5 ? -1 : refused[what];
    }
}
