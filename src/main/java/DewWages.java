/** Dew's the wages: a valley told as a text, its days, what is asked of them. One promise, one method. */
public final class DewWages {
    public static final int NONE = -1;

    private static final int MOST_BYTES = 1600;
    private static final int FED_BYTES = 20;
    private static final int MOST_STATEMENTS = 80;
    private static final int MOST_PEOPLE = 6;
    private static final int MOST_LETTERS = 6;
    private static final int MOST_DIGITS = 4;
    private static final int MOST_OPEN = 7;
    private static final int LEAST_SIDE = 2;
    private static final int MOST_SIDE = 8;
    private static final int MOST_CELLS = MOST_SIDE * MOST_SIDE;
    private static final int MOST_DEW = 99;
    private static final int MOST_SHEET = 99;
    private static final int MOST_OWED = 99;
    private static final int MOST_DAY = 999;
    private static final int MOST_PURSE = 999;
    private static final int MOST_MIST = 100;
    private static final int HOURS = 9;
    private static final int LAST_HOUR = HOURS - 1;
    private static final int STEPS = 5;
    private static final int MOST_WAY = 5;
    private static final int MOST_DAYS = 40;
    private static final int MOST_KEPT = 40;
    private static final int MOST_ACTS = 20;
    private static final int MOST_SEEN = 16;
    private static final int KEPT_FACTS = 3;
    private static final int SEEN_FACTS = 4;
    private static final int EVERYBODY = (1 << MOST_PEOPLE) - 1;
    private static final int UNTOLD_FALL = 5;
    private static final int UNTOLD_SUN = 1;
    private static final int UNTOLD_TAKE = 9;

    private static final int REFUSED_TAPE = 0;
    private static final int REFUSED_VALLEY = 1;
    private static final int REFUSED_DAYS = 2;
    private static final int REFUSED_CHANGE = 3;
    private static final int REFUSED_UNDO = 4;
    private static final int REFUSED_OTHER = 5;
    private static final int REFUSED_KINDS = 6;

    private final int[] tape = new int[MOST_BYTES];
    private int tapeSize;
    private final Plan plan = new Plan();
    private final Reader reader = new Reader();
    private final State state = new State();
    private final State spare = new State();
    private final Acts acts = new Acts();
    private final Walk walk = new Walk(plan);
    private final Today today = new Today(plan);
    private final Ways ways = new Ways(plan);
    private final Ahead ahead = new Ahead(plan);
    private final Walkers sets = new Walkers(plan);
    private final Image latest = new Image();
    private final int[] refused = new int[REFUSED_KINDS];
    private int seedNow = 1;

    public DewWages() {
        // The rows above are all that there is at first: no CELLS, no PEOPLE.
    }

    // ---- the tape and the valley

    public int feed(int a, int b, int c, int d, int e) {
        if (tapeSize + FED_BYTES > MOST_BYTES) {
            return refuse(REFUSED_TAPE);
        }
        put(a);
        put(b);
        put(c);
        put(d);
        put(e);
        return tapeSize;
    }

    public boolean end(int n) {
        if (n < 0 || n > tapeSize) {
            refuse(REFUSED_TAPE);
            return false;
        }
        tapeSize = n;
        return true;
    }

    public int valley() {
        boolean good = reader.read(tape, tapeSize);
        tapeSize = 0;
        if (!good) {
            return refuse(REFUSED_VALLEY);
        }
        plan.copyOf(reader.plan);
        state.startOf(plan);
        acts.forget();
        sets.forgetSeen();
        forgetAnswers();
        return plan.statements;
    }

    public int fault(int what) {
        if (what == 0) {
            return reader.fault;
        }
        return what == 1 ? reader.place : NONE;
    }

    public int has(int what) {
        switch (what) {
            case 0: return plan.columns;
            case 1: return plan.rows;
            case 2: return plan.people;
            case 3: return state.day;
            case 4: return total(state.dew, plan.cells);
            case 5: return total(state.purse, plan.people);
            case 6: return state.keptSize;
            case 7: return sets.seenRows;
            case 8: return acts.size;
            case 9: return seedNow;
            default: return NONE;
        }
    }

    public int letter(int person, int k) {
        if (!plan.hasPerson(person) || k < 0 || k >= MOST_LETTERS) {
            return NONE;
        }
        return plan.letters[person * MOST_LETTERS + k];
    }

    public int cell(int column, int row) {
        int place = plan.cellAt(column, row);
        return place == NONE ? NONE : state.dew[place];
    }

    public int person(int person, int what) {
        if (!plan.hasPerson(person)) {
            return NONE;
        }
        switch (what) {
            case 0: return plan.columnOf(state.gate[person]);
            case 1: return plan.rowOf(state.gate[person]);
            case 2: return state.up[person];
            case 3: return state.sheet[person];
            case 4: return plan.owes[person];
            case 5: return state.purse[person];
            default: return NONE;
        }
    }

    // ---- today

    public int today(int person, int hour, int what) {
        if (!plan.hasPerson(person) || !isHour(hour) || what < 0 || what > 2) {
            return NONE;
        }
        today.learn(state);
        if (what == 2) {
            return today.haveAt[hour][person];
        }
        int place = today.cellAt[hour][person];
        return what == 0 ? plan.columnOf(place) : plan.rowOf(place);
    }

    public int dew(int column, int row, int hour) {
        int place = plan.cellAt(column, row);
        if (place == NONE || hour < NONE || hour > LAST_HOUR) {
            return NONE;
        }
        today.learn(state);
        return hour == NONE ? today.dawn.dew[place] : today.dewAt[hour][place];
    }

    public int up(int person, int what) {
        if (!plan.hasPerson(person) || what < 0 || what > 1) {
            return NONE;
        }
        today.learn(state);
        today.findRise(person);
        return what == 0 ? today.riseHour[person] : today.riseHas[person];
    }

    public int home(int person, int what) {
        if (!plan.hasPerson(person) || what < 0 || what > 2) {
            return NONE;
        }
        today.learn(state);
        today.findHome(person);
        if (what == 2) {
            return today.homeHas[person];
        }
        int place = today.homeCell[person];
        return what == 0 ? plan.columnOf(place) : plan.rowOf(place);
    }

    public int way(int person, int n, int k) {
        if (!plan.hasPerson(person) || n < 1 || n > MOST_WAY || state.up[person] + n > HOURS) {
            return NONE;
        }
        if (k < NONE || k >= n) {
            return NONE;
        }
        today.learn(state);
        ways.find(today.dawn, person, n);
        return k == NONE ? ways.has : ways.best[k];
    }

    public int changed(int what) {
        if (what < 0 || what > 2) {
            return NONE;
        }
        today.learn(state);
        today.findChange();
        if (today.changeFirst == NONE) {
            return NONE;
        }
        if (what == 2) {
            return today.changeWrung;
        }
        return what == 0 ? today.changeFirst : today.changeSecond;
    }

    // ---- ahead

    public int later(int column, int row, int n) {
        int place = plan.cellAt(column, row);
        if (place == NONE || n < 0 || n > daysLeft()) {
            return NONE;
        }
        ahead.learn(state, daysAhead());
        return ahead.dew[n][place];
    }

    public int purse(int person, int n) {
        if (!plan.hasPerson(person) || n < 0 || n > daysLeft()) {
            return NONE;
        }
        ahead.learn(state, daysAhead());
        return ahead.purses[n][person];
    }

    public int dry(int person) {
        if (!plan.hasPerson(person)) {
            return NONE;
        }
        ahead.learn(state, daysAhead());
        return ahead.firstDry[person];
    }

    // ---- who was up

    public int see() {
        int size = tapeSize;
        tapeSize = 0;
        if (!sets.look(tape, size)) {
            return refuse(REFUSED_OTHER);
        }
        return sets.seenRows;
    }

    public int walkers(int what) {
        if (what < 0 || what > 1) {
            return NONE;
        }
        today.learn(state);
        sets.learn(today.dawn);
        if (what == 0) {
            return sets.size;
        }
        return sets.size == 0 ? NONE : sets.members[0];
    }

    public int tells(int what) {
        if (what < 0 || what > 3 || plan.cells == 0) {
            return NONE;
        }
        today.learn(state);
        sets.learn(today.dawn);
        if (sets.size == 0) {
            return NONE;
        }
        sets.findTelling();
        switch (what) {
            case 0: return sets.tellHour;
            case 1: return plan.columnOf(sets.tellCell);
            case 2: return plan.rowOf(sets.tellCell);
            default: return sets.tellLeft;
        }
    }

    // ---- acts

    public int days(int n) {
        if (n < 1 || n > daysLeft()) {
            return refuse(REFUSED_DAYS);
        }
        beginAct();
        int wrung = 0;
        for (int i = 0; i < n; i++) {
            wrung += walk.live(state, false);
        }
        return wrung;
    }

    public int chance(int n) {
        if (n < 1 || n > daysLeft()) {
            return refuse(REFUSED_DAYS);
        }
        beginAct();
        int mists = 0;
        for (int i = 0; i < n; i++) {
            boolean mist = draw(100) < plan.mist;
            mists += mist ? 1 : 0;
            walk.live(state, mist);
        }
        return mists;
    }

    public boolean rise(int person, int hour) {
        if (!plan.hasPerson(person) || !isHour(hour) || state.up[person] == hour) {
            refuse(REFUSED_CHANGE);
            return false;
        }
        beginAct();
        state.up[person] = hour;
        return true;
    }

    public boolean move(int person, int column, int row) {
        int place = plan.cellAt(column, row);
        if (!plan.hasPerson(person) || place == NONE || state.gate[person] == place) {
            refuse(REFUSED_CHANGE);
            return false;
        }
        beginAct();
        state.gate[person] = place;
        return true;
    }

    public boolean weave(int person, int sheet) {
        if (!plan.hasPerson(person) || sheet < 1 || sheet > MOST_SHEET || state.sheet[person] == sheet) {
            refuse(REFUSED_CHANGE);
            return false;
        }
        beginAct();
        state.sheet[person] = sheet;
        return true;
    }

    public boolean undo() {
        if (!acts.back(state)) {
            refuse(REFUSED_UNDO);
            return false;
        }
        forgetAnswers();
        return true;
    }

    public boolean seed(int seed) {
        if (seed < 0) {
            refuse(REFUSED_OTHER);
            return false;
        }
        seedNow = seed;
        return true;
    }

    public int kept(int k, int what) {
        if (k < 0 || k >= state.keptSize || what < 0 || what >= KEPT_FACTS) {
            return NONE;
        }
        return state.kept[k * KEPT_FACTS + what];
    }

    // ---- images, refusals

    public int image() {
        latest.write(plan, state);
        return latest.size;
    }

    public int octet(int k) {
        return k < 0 || k >= latest.size ? NONE : latest.bytes[k];
    }

    public boolean on() {
        int size = tapeSize;
        tapeSize = 0;
        if (!Image.restore(tape, size, plan, spare)) {
            refuse(REFUSED_OTHER);
            return false;
        }
        state.copyOf(spare);
        acts.forget();
        forgetAnswers();
        return true;
    }

    public int status(int what) {
        return what < 0 || what >= REFUSED_KINDS ? NONE : refused[what];
    }

    // ---- helpers of the face

    private int refuse(int kind) {
        if (kind >= 0 && kind < REFUSED_KINDS) {
            refused[kind]++;
        }
        return NONE;
    }

    private void put(int number) {
        for (int shift = 24; shift >= 0; shift -= 8) {
            if (tapeSize < MOST_BYTES) {
                tape[tapeSize] = number >> shift & 255;
                tapeSize++;
            }
        }
    }

    private void beginAct() {
        acts.keep(state);
        forgetAnswers();
    }

    private void forgetAnswers() {
        today.forget();
        ways.forget();
        ahead.forget();
        sets.forget();
    }

    // Behind all that can go by it is DAY 999 at most.
    private int daysLeft() {
        return Math.min(MOST_DAYS, MOST_DAY - state.day);
    }

    // One more than can go by: DAY 999 has a nine o'clock too, at which a PERSON may be DRY.
    private int daysAhead() {
        return Math.min(MOST_DAYS, MOST_DAY - state.day + 1);
    }

    private int draw(int m) {
        long next = (1103515245L * seedNow + 12345L) % 2147483648L;
        seedNow = (int) next;
        return m < 1 ? 0 : (int) (next / 64 % m);
    }

    private static boolean isHour(int hour) {
        return hour >= 0 && hour <= LAST_HOUR;
    }

    private static int total(int[] numbers, int size) {
        int sum = 0;
        for (int i = 0; i < size && i < numbers.length; i++) {
            sum += numbers[i];
        }
        return sum;
    }

    /** A SUM as steps for a small stack: a chain of a thousand parts needs no recursion so. */
    private static final class Sum {
        static final int COLUMN = 0;
        static final int ROW = 1;
        static final int DEW = 2;
        static final int DAY = 3;
        static final int HOUR = 4;
        static final int HAVE = 5;
        static final int SHEET = 6;
        static final int FACTS = 7;

        static final int NUMBER = 0;
        static final int FACT = 1;
        static final int NOT = 2;
        static final int IF = 3;
        static final int PLUS = 4;
        static final int MINUS = 5;
        static final int TIMES = 6;
        static final int OVER = 7;
        static final int REST = 8;
        static final int MIN = 9;
        static final int MAX = 10;
        static final int BELOW = 11;
        static final int ABOVE = 12;
        static final int LIKE = 13;
        static final int AND = 14;
        static final int OR = 15;

        static final int KIND_BITS = 4;
        static final int KIND_MASK = 15;
        // Seven open at once, each with five or fewer values waiting, stay well below this.
        static final int DEEPEST = 64;
        static final long BOUND = 1000000L;

        final int[] steps = new int[MOST_BYTES];
        final int[] stack = new int[DEEPEST];
        int size;

        void clear() {
            size = 0;
        }

        boolean isTold() {
            return size > 0;
        }

        void copyOf(Sum other) {
            size = other.size;
            System.arraycopy(other.steps, 0, steps, 0, size);
        }

        void add(int kind, int number) {
            if (size < MOST_BYTES) {
                steps[size] = number << KIND_BITS | kind;
                size++;
            }
        }

        int value(int[] facts) {
            int top = 0;
            for (int i = 0; i < size; i++) {
                int kind = steps[i] & KIND_MASK;
                int number = steps[i] >> KIND_BITS;
                if (kind == NUMBER || kind == FACT) {
                    if (top < DEEPEST) {
                        stack[top] = kind == NUMBER ? number : facts[number];
                        top++;
                    }
                } else if (kind == NOT) {
                    if (top > 0) {
                        stack[top - 1] = 1 - stack[top - 1];
                    }
                } else if (kind == IF) {
                    if (top > 2) {
                        top -= 2;
                        stack[top - 1] = stack[top - 1] != 0 ? stack[top] : stack[top + 1];
                    }
                } else if (top > 1) {
                    top--;
                    stack[top - 1] = joined(kind, stack[top - 1], stack[top]);
                }
            }
            return top > 0 ? stack[top - 1] : 0;
        }

        private static int joined(int kind, long a, long b) {
            long result;
            switch (kind) {
                case PLUS: result = a + b; break;
                case MINUS: result = a - b; break;
                case TIMES: result = a * b; break;
                case OVER: result = b == 0 ? 0 : Math.floorDiv(a, b); break;
                case REST: result = b == 0 ? 0 : Math.floorMod(a, b); break;
                case MIN: result = Math.min(a, b); break;
                case MAX: result = Math.max(a, b); break;
                case BELOW: result = a < b ? 1 : 0; break;
                case ABOVE: result = a > b ? 1 : 0; break;
                case LIKE: result = a == b ? 1 : 0; break;
                case AND: result = a & b; break;
                case OR: result = a | b; break;
                default: result = 0; break;
            }
            return (int) Math.max(-BOUND, Math.min(BOUND, result));
        }
    }

    /** What a VALLEY's text tells: nothing of it changes until the next text. */
    private static final class Plan {
        int columns;
        int rows;
        int cells;
        int people;
        int mist;
        int statements;
        final int[] dew = new int[MOST_CELLS];
        final int[] letters = new int[MOST_PEOPLE * MOST_LETTERS];
        final int[] gate = new int[MOST_PEOPLE];
        final int[] up = new int[MOST_PEOPLE];
        final int[] sheet = new int[MOST_PEOPLE];
        final int[] owes = new int[MOST_PEOPLE];
        final Sum falls = new Sum();
        final Sum sun = new Sum();
        final Sum takes = new Sum();

        void clear() {
            columns = 0;
            rows = 0;
            cells = 0;
            people = 0;
            mist = 0;
            statements = 0;
            for (int i = 0; i < MOST_CELLS; i++) {
                dew[i] = 0;
            }
            for (int i = 0; i < letters.length; i++) {
                letters[i] = 0;
            }
            falls.clear();
            sun.clear();
            takes.clear();
        }

        void copyOf(Plan other) {
            columns = other.columns;
            rows = other.rows;
            cells = other.cells;
            people = other.people;
            mist = other.mist;
            statements = other.statements;
            System.arraycopy(other.dew, 0, dew, 0, MOST_CELLS);
            System.arraycopy(other.letters, 0, letters, 0, MOST_PEOPLE * MOST_LETTERS);
            System.arraycopy(other.gate, 0, gate, 0, MOST_PEOPLE);
            System.arraycopy(other.up, 0, up, 0, MOST_PEOPLE);
            System.arraycopy(other.sheet, 0, sheet, 0, MOST_PEOPLE);
            System.arraycopy(other.owes, 0, owes, 0, MOST_PEOPLE);
            falls.copyOf(other.falls);
            sun.copyOf(other.sun);
            takes.copyOf(other.takes);
        }

        boolean hasPerson(int person) {
            return person >= 0 && person < people;
        }

        int cellAt(int column, int row) {
            if (column < 0 || column >= columns || row < 0 || row >= rows) {
                return NONE;
            }
            return row * columns + column;
        }

        int columnOf(int place) {
            return columns < 1 ? 0 : place % columns;
        }

        int rowOf(int place) {
            return columns < 1 ? 0 : place / columns;
        }

        /** The CELL that a step leads to: 0 stays, 1 column less, 2 more, 3 row less, 4 more. */
        int beside(int place, int step) {
            switch (step) {
                case 0: return place;
                case 1: return columnOf(place) > 0 ? place - 1 : NONE;
                case 2: return columnOf(place) + 1 < columns ? place + 1 : NONE;
                case 3: return place >= columns ? place - columns : NONE;
                case 4: return place + columns < cells ? place + columns : NONE;
                default: return NONE;
            }
        }
    }

    /** Reads a VALLEY's text: all of it as tokens first, then from the left on, up to its first FAULT. */
    private static final class Reader {
        // The numbers of the words below are their places in this row.
        static final String OWN_WORDS =
            "field by dew person at up sheet owes falls sun takes mist column row day hour have if or and not all min max ";
        static final String SIGNS = "+-*/%()[],;<>=";
        static final int FIELD = 0;
        static final int BY = 1;
        static final int DEW = 2;
        static final int PERSON = 3;
        static final int AT = 4;
        static final int UP = 5;
        static final int SHEET = 6;
        static final int OWES = 7;
        static final int FALLS = 8;
        static final int SUN = 9;
        static final int TAKES = 10;
        static final int MIST = 11;
        static final int COLUMN = 12;
        static final int ROW = 13;
        static final int DAY = 14;
        static final int HOUR = 15;
        static final int HAVE = 16;
        static final int IF = 17;
        static final int OR = 18;
        static final int AND = 19;
        static final int NOT = 20;
        static final int ALL = 21;
        static final int MIN = 22;
        static final int MAX = 23;
        static final int NAME = 24;
        static final int NUMBER = 25;
        static final int END = 26;
        // Holds a byte that stands nowhere; the byte's place is its value.
        static final int BROKEN = 27;

        static final int FAULT_TEXT = 1;
        static final int FAULT_NAME = 2;
        static final int FAULT_NUMBER = 4;
        static final int FAULT_DEPTH = 5;
        static final int FAULT_COUNT = 6;

        final Plan plan = new Plan();
        int fault;
        int place = NONE;
        // A token is a word's number, one of the four kinds behind these, or the byte of a sign.
        private final int[] tokens = new int[MOST_BYTES + 1];
        private final int[] starts = new int[MOST_BYTES + 1];
        private final int[] values = new int[MOST_BYTES + 1];
        private int size;
        private int at;
        private int open;
        private int law;
        private Sum sum = plan.falls;

        boolean read(int[] text, int length) {
            fault = 0;
            place = NONE;
            at = 0;
            open = 0;
            plan.clear();
            split(text, Math.min(length, MOST_BYTES));
            for (int i = 0; i <= MOST_STATEMENTS; i++) {
                if (i > 0 && tokens[at] == END) {
                    plan.statements = i;
                    return true;
                }
                if (i == MOST_STATEMENTS) {
                    return wrong(FAULT_COUNT);
                }
                if (!readStatement(i == 0, text) || !take(';')) {
                    return false;
                }
            }
            return false;
        }

        // ---- statements

        private boolean readStatement(boolean first, int[] text) {
            if (first != (tokens[at] == FIELD)) {
                return astray();
            }
            switch (tokens[at]) {
                case FIELD: return readField();
                case DEW: return readDew();
                case PERSON: return readPerson(text);
                case FALLS: return readLaw(FALLS, plan.falls);
                case SUN: return readLaw(SUN, plan.sun);
                case TAKES: return readLaw(TAKES, plan.takes);
                case MIST: return readMist();
                default: return astray();
            }
        }

        private boolean readField() {
            pass();
            if (!takeNumber(LEAST_SIDE, MOST_SIDE)) {
                return false;
            }
            plan.columns = lastValue();
            if (!take(BY) || !takeNumber(LEAST_SIDE, MOST_SIDE)) {
                return false;
            }
            plan.rows = lastValue();
            plan.cells = plan.columns * plan.rows;
            return true;
        }

        private boolean readDew() {
            pass();
            int cell = takeCell();
            if (cell == NONE || !takeNumber(0, MOST_DEW)) {
                return false;
            }
            plan.dew[cell] = lastValue();
            return true;
        }

        /** A column and a row; NONE with a FAULT. */
        private int takeCell() {
            if (!takeNumber(0, plan.columns - 1)) {
                return NONE;
            }
            int column = lastValue();
            return takeNumber(0, plan.rows - 1) ? plan.cellAt(column, lastValue()) : NONE;
        }

        private boolean readPerson(int[] text) {
            int person = plan.people;
            if (person >= MOST_PEOPLE) {
                return wrong(FAULT_COUNT);
            }
            pass();
            if (tokens[at] != NAME) {
                return astray();
            }
            writeName(person, text);
            if (isThereAlready(person)) {
                return wrong(FAULT_NAME);
            }
            pass();
            if (!take(AT)) {
                return false;
            }
            plan.gate[person] = takeCell();
            if (plan.gate[person] == NONE || !take(UP) || !takeNumber(0, LAST_HOUR)) {
                return false;
            }
            plan.up[person] = lastValue();
            if (!take(SHEET) || !takeNumber(1, MOST_SHEET)) {
                return false;
            }
            plan.sheet[person] = lastValue();
            if (!take(OWES) || !takeNumber(0, MOST_OWED)) {
                return false;
            }
            plan.owes[person] = lastValue();
            plan.people++;
            return true;
        }

        private void writeName(int person, int[] text) {
            int start = starts[at];
            int length = values[at];
            for (int k = 0; k < MOST_LETTERS; k++) {
                boolean written = k < length && start + k < text.length;
                plan.letters[person * MOST_LETTERS + k] = written ? text[start + k] - 'a' + 1 : 0;
            }
        }

        private boolean isThereAlready(int person) {
            for (int other = 0; other < person; other++) {
                boolean same = true;
                for (int k = 0; k < MOST_LETTERS; k++) {
                    same = same && plan.letters[other * MOST_LETTERS + k] == plan.letters[person * MOST_LETTERS + k];
                }
                if (same) {
                    return true;
                }
            }
            return false;
        }

        private boolean readLaw(int word, Sum told) {
            if (told.isTold()) {
                return wrong(FAULT_COUNT);
            }
            law = word;
            sum = told;
            pass();
            return readSum();
        }

        private boolean readMist() {
            pass();
            if (!takeNumber(0, MOST_MIST)) {
                return false;
            }
            plan.mist = lastValue();
            return true;
        }

        // ---- sums: what is open keeps these from calling one another too deep

        private boolean readSum() {
            if (!readProduct()) {
                return false;
            }
            for (int i = 0; i < MOST_BYTES && (tokens[at] == '+' || tokens[at] == '-'); i++) {
                int kind = tokens[at] == '+' ? Sum.PLUS : Sum.MINUS;
                pass();
                if (!readProduct()) {
                    return false;
                }
                sum.add(kind, 0);
            }
            return true;
        }

        private boolean readProduct() {
            if (!readPart()) {
                return false;
            }
            for (int i = 0; i < MOST_BYTES && isTimes(tokens[at]); i++) {
                int kind = tokens[at] == '*' ? Sum.TIMES : tokens[at] == '/' ? Sum.OVER : Sum.REST;
                pass();
                if (!readPart()) {
                    return false;
                }
                sum.add(kind, 0);
            }
            return true;
        }

        private static boolean isTimes(int token) {
            return token == '*' || token == '/' || token == '%';
        }

        private boolean readPart() {
            switch (tokens[at]) {
                case NUMBER: return tell(Sum.NUMBER, values[at]);
                case COLUMN: return tell(Sum.FACT, Sum.COLUMN);
                case ROW: return tell(Sum.FACT, Sum.ROW);
                case DEW: return tell(Sum.FACT, Sum.DEW);
                case DAY: return tell(Sum.FACT, Sum.DAY);
                case HOUR: return law == FALLS ? astray() : tell(Sum.FACT, Sum.HOUR);
                case HAVE: return law == TAKES ? tell(Sum.FACT, Sum.HAVE) : astray();
                case SHEET: return law == TAKES ? tell(Sum.FACT, Sum.SHEET) : astray();
                case '(': return opens('(') && readSum() && closes(')');
                case MIN: return readPair(Sum.MIN);
                case MAX: return readPair(Sum.MAX);
                case IF: return readChoice();
                default: return astray();
            }
        }

        private boolean tell(int kind, int number) {
            sum.add(kind, number);
            pass();
            return true;
        }

        private boolean readPair(int kind) {
            pass();
            if (!opens('(') || !readSum() || !take(',') || !readSum() || !closes(')')) {
                return false;
            }
            sum.add(kind, 0);
            return true;
        }

        private boolean readChoice() {
            pass();
            if (!opens('(') || !readTest() || !take(',') || !readSum() || !take(',') || !readSum() || !closes(')')) {
                return false;
            }
            sum.add(Sum.IF, 0);
            return true;
        }

        private boolean readTest() {
            if (!readBoth()) {
                return false;
            }
            for (int i = 0; i < MOST_BYTES && tokens[at] == OR; i++) {
                pass();
                if (!readBoth()) {
                    return false;
                }
                sum.add(Sum.OR, 0);
            }
            return true;
        }

        private boolean readBoth() {
            if (!readFact()) {
                return false;
            }
            for (int i = 0; i < MOST_BYTES && tokens[at] == AND; i++) {
                pass();
                if (!readFact()) {
                    return false;
                }
                sum.add(Sum.AND, 0);
            }
            return true;
        }

        private boolean readFact() {
            switch (tokens[at]) {
                case NOT: return readNot();
                case '[': return opens('[') && readTest() && closes(']');
                case ALL: return tell(Sum.NUMBER, 1);
                default: return readComparison();
            }
        }

        private boolean readNot() {
            if (!opens(NOT) || !readFact()) {
                return false;
            }
            open--;
            sum.add(Sum.NOT, 0);
            return true;
        }

        private boolean readComparison() {
            if (!readSum()) {
                return false;
            }
            int kind;
            switch (tokens[at]) {
                case '<': kind = Sum.BELOW; break;
                case '>': kind = Sum.ABOVE; break;
                case '=': kind = Sum.LIKE; break;
                default: return astray();
            }
            pass();
            if (!readSum()) {
                return false;
            }
            sum.add(kind, 0);
            return true;
        }

        // ---- one token

        private void pass() {
            if (at < size - 1) {
                at++;
            }
        }

        private boolean take(int wanted) {
            if (tokens[at] != wanted) {
                return astray();
            }
            pass();
            return true;
        }

        private boolean takeNumber(int least, int most) {
            if (tokens[at] != NUMBER) {
                return astray();
            }
            if (values[at] < least || values[at] > most) {
                return wrong(FAULT_NUMBER);
            }
            pass();
            return true;
        }

        private int lastValue() {
            return at > 0 ? values[at - 1] : 0;
        }

        private boolean opens(int wanted) {
            if (tokens[at] != wanted) {
                return astray();
            }
            if (open >= MOST_OPEN) {
                return wrong(FAULT_DEPTH);
            }
            open++;
            pass();
            return true;
        }

        private boolean closes(int wanted) {
            if (tokens[at] != wanted) {
                return astray();
            }
            open--;
            pass();
            return true;
        }

        private boolean astray() {
            fault = FAULT_TEXT;
            place = tokens[at] == BROKEN ? values[at] : starts[at];
            return false;
        }

        private boolean wrong(int kind) {
            fault = kind;
            place = starts[at];
            return false;
        }

        // ---- from bytes to tokens

        /** The last token is END, or BROKEN: no VALLEY goes on behind that. */
        private void split(int[] text, int length) {
            size = 0;
            int end = 0;
            for (int i = 0; i <= MOST_BYTES; i++) {
                int start = behindBlanks(text, length, end);
                boolean besideRun = size > 0 && tokens[size - 1] < END && start == end;
                // A blank missing here lies ahead of a 7th letter or a 5th digit of the same run.
                if (besideRun && start < length && isRun(text[start])) {
                    add(BROKEN, start, start);
                    return;
                }
                end = endOfRun(text, length, start);
                int token = tokenAt(text, start, end);
                add(token, start, valueOf(token, text, start, end));
                if (token == END || token == BROKEN) {
                    return;
                }
            }
        }

        private void add(int token, int start, int value) {
            if (size <= MOST_BYTES) {
                tokens[size] = token;
                starts[size] = start;
                values[size] = value;
                size++;
            }
        }

        private static int behindBlanks(int[] text, int length, int from) {
            int i = from;
            while (i < length && (text[i] == ' ' || text[i] == '\n')) {
                i++;
            }
            return i;
        }

        /** Words and numbers are runs; all else is a byte alone. */
        private static int endOfRun(int[] text, int length, int start) {
            if (start >= length) {
                return start;
            }
            int end = start + 1;
            if (isLetter(text[start])) {
                while (end < length && isLetter(text[end])) {
                    end++;
                }
            } else if (isDigit(text[start])) {
                while (end < length && isDigit(text[end])) {
                    end++;
                }
            }
            return end;
        }

        private static int tokenAt(int[] text, int start, int end) {
            if (start >= end) {
                return END;
            }
            if (isLetter(text[start])) {
                return end - start > MOST_LETTERS ? BROKEN : wordAt(text, start, end);
            }
            if (isDigit(text[start])) {
                return end - start > MOST_DIGITS ? BROKEN : NUMBER;
            }
            return SIGNS.indexOf((char) text[start]) < 0 ? BROKEN : text[start];
        }

        /** A number's value, where a BROKEN one breaks, of others how many bytes. */
        private static int valueOf(int token, int[] text, int start, int end) {
            if (token == NUMBER) {
                int value = 0;
                for (int i = start; i < end; i++) {
                    value = value * 10 + text[i] - '0';
                }
                return value;
            }
            if (token == BROKEN && start < end) {
                return isLetter(text[start]) ? start + MOST_LETTERS : isDigit(text[start]) ? start + MOST_DIGITS : start;
            }
            return end - start;
        }

        /** An OWN WORD's number, else NAME. */
        private static int wordAt(int[] text, int start, int end) {
            int word = 0;
            int k = start;
            boolean same = true;
            for (int i = 0; i < OWN_WORDS.length(); i++) {
                char c = OWN_WORDS.charAt(i);
                if (c != ' ') {
                    same = same && k < end && text[k] == c;
                    k++;
                } else if (same && k == end) {
                    return word;
                } else {
                    word++;
                    k = start;
                    same = true;
                }
            }
            return NAME;
        }

        /** Of words and numbers, which need a blank between them. */
        private static boolean isRun(int c) {
            return isLetter(c) || isDigit(c);
        }

        private static boolean isLetter(int c) {
            return c >= 'a' && c <= 'z';
        }

        private static boolean isDigit(int c) {
            return c >= '0' && c <= '9';
        }
    }

    /** All that ACTS change, but the seed. */
    private static final class State {
        int day;
        final int[] dew = new int[MOST_CELLS];
        final int[] gate = new int[MOST_PEOPLE];
        final int[] up = new int[MOST_PEOPLE];
        final int[] sheet = new int[MOST_PEOPLE];
        final int[] purse = new int[MOST_PEOPLE];
        final int[] kept = new int[MOST_KEPT * KEPT_FACTS];
        int keptSize;

        void startOf(Plan plan) {
            day = 0;
            keptSize = 0;
            System.arraycopy(plan.dew, 0, dew, 0, MOST_CELLS);
            System.arraycopy(plan.gate, 0, gate, 0, MOST_PEOPLE);
            System.arraycopy(plan.up, 0, up, 0, MOST_PEOPLE);
            System.arraycopy(plan.sheet, 0, sheet, 0, MOST_PEOPLE);
            for (int i = 0; i < MOST_PEOPLE; i++) {
                purse[i] = 0;
            }
        }

        void copyOf(State other) {
            day = other.day;
            keptSize = other.keptSize;
            System.arraycopy(other.dew, 0, dew, 0, MOST_CELLS);
            System.arraycopy(other.gate, 0, gate, 0, MOST_PEOPLE);
            System.arraycopy(other.up, 0, up, 0, MOST_PEOPLE);
            System.arraycopy(other.sheet, 0, sheet, 0, MOST_PEOPLE);
            System.arraycopy(other.purse, 0, purse, 0, MOST_PEOPLE);
            System.arraycopy(other.kept, 0, kept, 0, MOST_KEPT * KEPT_FACTS);
        }

        void keep(int wrung, int dry) {
            if (keptSize >= MOST_KEPT) {
                System.arraycopy(kept, KEPT_FACTS, kept, 0, (MOST_KEPT - 1) * KEPT_FACTS);
                keptSize = MOST_KEPT - 1;
            }
            int base = keptSize * KEPT_FACTS;
            kept[base] = day;
            kept[base + 1] = wrung;
            kept[base + 2] = dry;
            keptSize++;
        }
    }

    /** The states ahead of the latest ACTS; a full row loses its oldest. */
    private static final class Acts {
        private final State[] before = new State[MOST_ACTS];
        private int first;
        int size;

        Acts() {
            for (int i = 0; i < MOST_ACTS; i++) {
                before[i] = new State();
            }
        }

        void forget() {
            size = 0;
        }

        void keep(State state) {
            before[(first + size) % MOST_ACTS].copyOf(state);
            if (size < MOST_ACTS) {
                size++;
            } else {
                first = (first + 1) % MOST_ACTS;
            }
        }

        boolean back(State state) {
            if (size < 1) {
                return false;
            }
            size--;
            state.copyOf(before[(first + size) % MOST_ACTS]);
            return true;
        }
    }

    /** One DAY on its way: the dew, where everyone is and what he has. */
    private static final class Walk {
        private final Plan plan;
        final int[] dew = new int[MOST_CELLS];
        final int[] up = new int[MOST_PEOPLE];
        final int[] sheet = new int[MOST_PEOPLE];
        final int[] at = new int[MOST_PEOPLE];
        final int[] have = new int[MOST_PEOPLE];
        private final int[] facts = new int[Sum.FACTS];
        // Bits: who gets up at all; who was DRY in the DAY that was lived last.
        int awake = EVERYBODY;
        int dry;
        private int day;

        Walk(Plan plan) {
            this.plan = plan;
        }

        /** The DAY as it begins, behind what falls. */
        void begin(State state, int timesFallen) {
            day = state.day;
            awake = EVERYBODY;
            System.arraycopy(state.dew, 0, dew, 0, MOST_CELLS);
            System.arraycopy(state.gate, 0, at, 0, MOST_PEOPLE);
            System.arraycopy(state.up, 0, up, 0, MOST_PEOPLE);
            System.arraycopy(state.sheet, 0, sheet, 0, MOST_PEOPLE);
            for (int i = 0; i < MOST_PEOPLE; i++) {
                have[i] = 0;
            }
            for (int place = 0; place < plan.cells; place++) {
                face(place, 0);
                int more = plan.falls.isTold() ? plan.falls.value(facts) : UNTOLD_FALL;
                dew[place] = Math.min(MOST_DEW, dew[place] + Math.max(0, more) * timesFallen);
            }
        }

        void copyOf(Walk other) {
            day = other.day;
            awake = other.awake;
            System.arraycopy(other.dew, 0, dew, 0, MOST_CELLS);
            System.arraycopy(other.up, 0, up, 0, MOST_PEOPLE);
            System.arraycopy(other.sheet, 0, sheet, 0, MOST_PEOPLE);
            System.arraycopy(other.at, 0, at, 0, MOST_PEOPLE);
            System.arraycopy(other.have, 0, have, 0, MOST_PEOPLE);
        }

        /** The HOURS from one on, ahead of another one. */
        void through(int first, int end) {
            for (int hour = first; hour < end; hour++) {
                goAll(0, plan.people, hour);
                dryUp(hour);
            }
        }

        void goAll(int first, int end, int hour) {
            for (int i = first; i < end; i++) {
                if (up[i] <= hour && (awake >> i & 1) == 1) {
                    go(i, wettest(at[i]), hour);
                }
            }
        }

        void go(int person, int place, int hour) {
            at[person] = place;
            int most = Math.min(dew[place], sheet[person] - have[person]);
            if (most <= 0) {
                return;
            }
            int told = UNTOLD_TAKE;
            if (plan.takes.isTold()) {
                face(place, hour);
                facts[Sum.HAVE] = have[person];
                facts[Sum.SHEET] = sheet[person];
                told = plan.takes.value(facts);
            }
            int wrung = Math.max(0, Math.min(most, told));
            have[person] += wrung;
            dew[place] -= wrung;
        }

        private int wettest(int place) {
            int best = place;
            for (int step = 1; step < STEPS; step++) {
                int next = plan.beside(place, step);
                if (next != NONE && dew[next] > dew[best]) {
                    best = next;
                }
            }
            return best;
        }

        void dryUp(int hour) {
            for (int place = 0; place < plan.cells; place++) {
                if (dew[place] > 0) {
                    face(place, hour);
                    int told = plan.sun.isTold() ? plan.sun.value(facts) : UNTOLD_SUN;
                    dew[place] -= Math.max(0, Math.min(dew[place], told));
                }
            }
        }

        private void face(int place, int hour) {
            facts[Sum.COLUMN] = plan.columnOf(place);
            facts[Sum.ROW] = plan.rowOf(place);
            facts[Sum.DEW] = dew[place];
            facts[Sum.DAY] = day;
            facts[Sum.HOUR] = hour;
        }

        int wrungByAll() {
            return total(have, plan.people);
        }

        /** A whole DAY goes by in the state: how much was wrung. */
        int live(State state, boolean mist) {
            begin(state, mist ? 2 : 1);
            through(0, HOURS);
            dry = 0;
            int dryPeople = 0;
            for (int i = 0; i < plan.people; i++) {
                int left = have[i] + state.purse[i] - plan.owes[i];
                if (left < 0) {
                    dry |= 1 << i;
                    dryPeople++;
                }
                state.purse[i] = Math.max(0, Math.min(MOST_PURSE, left));
            }
            System.arraycopy(dew, 0, state.dew, 0, MOST_CELLS);
            state.keep(wrungByAll(), dryPeople);
            state.day = Math.min(MOST_DAY, state.day + 1);
            return wrungByAll();
        }
    }

    /** TODAY hour by hour, and what would be best in it; learnt once, until the state changes. */
    private static final class Today {
        private final Plan plan;
        final Walk dawn;
        private final Walk walk;
        final int[][] dewAt = new int[HOURS][MOST_CELLS];
        final int[][] cellAt = new int[HOURS][MOST_PEOPLE];
        final int[][] haveAt = new int[HOURS][MOST_PEOPLE];
        final int[] riseHour = new int[MOST_PEOPLE];
        final int[] riseHas = new int[MOST_PEOPLE];
        final int[] homeCell = new int[MOST_PEOPLE];
        final int[] homeHas = new int[MOST_PEOPLE];
        int changeFirst;
        int changeSecond;
        int changeWrung;
        private boolean known;
        private boolean changeKnown;

        Today(Plan plan) {
            this.plan = plan;
            dawn = new Walk(plan);
            walk = new Walk(plan);
        }

        void forget() {
            known = false;
            changeKnown = false;
        }

        void learn(State state) {
            if (known) {
                return;
            }
            known = true;
            dawn.begin(state, 1);
            walk.copyOf(dawn);
            for (int hour = 0; hour < HOURS; hour++) {
                walk.through(hour, hour + 1);
                System.arraycopy(walk.dew, 0, dewAt[hour], 0, MOST_CELLS);
                System.arraycopy(walk.at, 0, cellAt[hour], 0, MOST_PEOPLE);
                System.arraycopy(walk.have, 0, haveAt[hour], 0, MOST_PEOPLE);
            }
            for (int i = 0; i < MOST_PEOPLE; i++) {
                riseHour[i] = NONE;
                homeCell[i] = NONE;
            }
        }

        void findRise(int person) {
            if (riseHour[person] != NONE) {
                return;
            }
            riseHas[person] = NONE;
            for (int hour = 0; hour < HOURS; hour++) {
                walk.copyOf(dawn);
                walk.up[person] = hour;
                walk.through(0, HOURS);
                if (walk.have[person] > riseHas[person]) {
                    riseHas[person] = walk.have[person];
                    riseHour[person] = hour;
                }
            }
        }

        void findHome(int person) {
            if (homeCell[person] != NONE) {
                return;
            }
            homeHas[person] = NONE;
            for (int place = 0; place < plan.cells; place++) {
                walk.copyOf(dawn);
                walk.at[person] = place;
                walk.through(0, HOURS);
                if (walk.have[person] > homeHas[person]) {
                    homeHas[person] = walk.have[person];
                    homeCell[person] = place;
                }
            }
        }

        void findChange() {
            if (changeKnown) {
                return;
            }
            changeKnown = true;
            changeFirst = NONE;
            changeWrung = total(haveAt[LAST_HOUR], plan.people);
            for (int a = 0; a < plan.people; a++) {
                for (int b = a + 1; b < plan.people; b++) {
                    tryChange(a, b);
                }
            }
        }

        private void tryChange(int a, int b) {
            walk.copyOf(dawn);
            walk.sheet[a] = dawn.sheet[b];
            walk.sheet[b] = dawn.sheet[a];
            walk.through(0, HOURS);
            if (walk.wrungByAll() > changeWrung) {
                changeWrung = walk.wrungByAll();
                changeFirst = a;
                changeSecond = b;
            }
        }
    }

    /** A WAY: all rows of steps are tried, the first ones first; the latest answer is kept. */
    private static final class Ways {
        private final Plan plan;
        private final Walk[] walks = new Walk[MOST_WAY + 1];
        private final int[] steps = new int[MOST_WAY];
        final int[] best = new int[MOST_WAY];
        int has;
        private int person = NONE;
        private int hours;

        Ways(Plan plan) {
            this.plan = plan;
            for (int i = 0; i <= MOST_WAY; i++) {
                walks[i] = new Walk(plan);
            }
        }

        void forget() {
            person = NONE;
        }

        void find(Walk dawn, int whose, int n) {
            if (person == whose && hours == n) {
                return;
            }
            person = whose;
            hours = n;
            has = NONE;
            walks[0].copyOf(dawn);
            walks[0].through(0, dawn.up[whose]);
            search(0);
        }

        /** All steps of the HOUR that is so many behind the one at which he is up. */
        private void search(int depth) {
            if (depth < 0 || depth >= hours || depth >= MOST_WAY) {
                return;
            }
            walks[depth].goAll(0, person, walks[depth].up[person] + depth);
            for (int step = 0; step < STEPS; step++) {
                tryStep(depth, step);
            }
        }

        private void tryStep(int depth, int step) {
            Walk walk = walks[depth];
            Walk on = walks[depth + 1];
            int hour = walk.up[person] + depth;
            int place = plan.beside(walk.at[person], step);
            if (place == NONE) {
                return;
            }
            steps[depth] = step;
            on.copyOf(walk);
            on.go(person, place, hour);
            if (depth + 1 == hours) {
                judge(on.have[person]);
                return;
            }
            on.goAll(person + 1, plan.people, hour);
            on.dryUp(hour);
            search(depth + 1);
        }

        private void judge(int hasThen) {
            if (hasThen > has) {
                has = hasThen;
                System.arraycopy(steps, 0, best, 0, MOST_WAY);
            }
        }
    }

    /** The DAYS AHEAD, without DRAWS; learnt once, until the state changes. */
    private static final class Ahead {
        private final Walk walk;
        private final Plan plan;
        private final State state = new State();
        final int[][] dew = new int[MOST_DAYS + 1][MOST_CELLS];
        final int[][] purses = new int[MOST_DAYS + 1][MOST_PEOPLE];
        final int[] firstDry = new int[MOST_PEOPLE];
        private boolean known;

        Ahead(Plan plan) {
            this.plan = plan;
            walk = new Walk(plan);
        }

        void forget() {
            known = false;
        }

        void learn(State now, int days) {
            if (known) {
                return;
            }
            known = true;
            state.copyOf(now);
            for (int i = 0; i < MOST_PEOPLE; i++) {
                firstDry[i] = NONE;
            }
            write(0);
            for (int n = 0; n < days && n < MOST_DAYS; n++) {
                walk.live(state, false);
                write(n + 1);
                for (int i = 0; i < plan.people; i++) {
                    if (firstDry[i] == NONE && (walk.dry >> i & 1) == 1) {
                        firstDry[i] = n;
                    }
                }
            }
        }

        private void write(int n) {
            System.arraycopy(state.dew, 0, dew[n], 0, MOST_CELLS);
            System.arraycopy(state.purse, 0, purses[n], 0, MOST_PEOPLE);
        }
    }

    /** What was SEEN, and the sets of PEOPLE by whose getting up all of it is so. */
    private static final class Walkers {
        private final Plan plan;
        private final Walk walk;
        private final int[] seen = new int[MOST_SEEN * SEEN_FACTS];
        int seenRows;
        private final int[][] dewOf = new int[EVERYBODY + 1][HOURS * MOST_CELLS];
        final int[] members = new int[EVERYBODY + 1];
        int size;
        private final int[] count = new int[MOST_DEW + 1];
        int tellHour;
        int tellCell;
        int tellLeft;
        private boolean known;
        private boolean tellingKnown;

        Walkers(Plan plan) {
            this.plan = plan;
            walk = new Walk(plan);
        }

        void forget() {
            known = false;
            tellingKnown = false;
        }

        void forgetSeen() {
            seenRows = 0;
        }

        boolean look(int[] tape, int bytes) {
            int rows = bytes / SEEN_FACTS;
            if (rows < 1 || rows > MOST_SEEN || rows * SEEN_FACTS != bytes || bytes > tape.length) {
                return false;
            }
            for (int i = 0; i < bytes; i += SEEN_FACTS) {
                boolean there = plan.cellAt(tape[i + 1], tape[i + 2]) != NONE;
                if (!there || tape[i] > LAST_HOUR || tape[i + 3] > MOST_DEW) {
                    return false;
                }
            }
            System.arraycopy(tape, 0, seen, 0, bytes);
            seenRows = rows;
            forget();
            return true;
        }

        void learn(Walk dawn) {
            if (known) {
                return;
            }
            known = true;
            size = 0;
            for (int set = 0; set < 1 << plan.people && set <= EVERYBODY; set++) {
                walk.copyOf(dawn);
                walk.awake = set;
                for (int hour = 0; hour < HOURS; hour++) {
                    walk.through(hour, hour + 1);
                    System.arraycopy(walk.dew, 0, dewOf[set], hour * MOST_CELLS, MOST_CELLS);
                }
                if (isSo(set)) {
                    members[size] = set;
                    size++;
                }
            }
        }

        private boolean isSo(int set) {
            for (int i = 0; i < seenRows * SEEN_FACTS; i += SEEN_FACTS) {
                int place = plan.cellAt(seen[i + 1], seen[i + 2]);
                if (place == NONE || dewOf[set][seen[i] * MOST_CELLS + place] != seen[i + 3]) {
                    return false;
                }
            }
            return true;
        }

        void findTelling() {
            if (tellingKnown) {
                return;
            }
            tellingKnown = true;
            tellLeft = size + 1;
            for (int hour = 0; hour < HOURS; hour++) {
                for (int place = 0; place < plan.cells; place++) {
                    int left = mostLeft(hour * MOST_CELLS + place);
                    if (left < tellLeft) {
                        tellLeft = left;
                        tellHour = hour;
                        tellCell = place;
                    }
                }
            }
        }

        /** How many sets are left at the most, whatever the dew is there. */
        private int mostLeft(int index) {
            int most = 0;
            for (int i = 0; i < count.length; i++) {
                count[i] = 0;
            }
            for (int i = 0; i < size; i++) {
                int dew = dewOf[members[i]][index];
                if (dew >= 0 && dew < count.length) {
                    count[dew]++;
                    most = Math.max(most, count[dew]);
                }
            }
            return most;
        }
    }

    /** AN IMAGE, written and read. */
    private static final class Image {
        static final int HEAD = 2;
        static final int PERSON_BYTES = 6;
        static final int MOST = HEAD + MOST_CELLS + MOST_PEOPLE * PERSON_BYTES + 1;

        final int[] bytes = new int[MOST];
        int size;

        void write(Plan plan, State state) {
            size = 0;
            add(state.day / 256);
            add(state.day % 256);
            for (int i = 0; i < plan.cells; i++) {
                add(state.dew[i]);
            }
            for (int i = 0; i < plan.people; i++) {
                add(plan.columnOf(state.gate[i]));
                add(plan.rowOf(state.gate[i]));
                add(state.up[i]);
                add(state.sheet[i]);
                add(state.purse[i] / 256);
                add(state.purse[i] % 256);
            }
            add(check(bytes, size));
        }

        private void add(int number) {
            if (size < MOST) {
                bytes[size] = number;
                size++;
            }
        }

        private static int check(int[] row, int size) {
            int c = 223;
            for (int i = 0; i < size && i < row.length; i++) {
                c = (5 * c + row[i]) % 251;
            }
            return c;
        }

        /** Whether the row is AN IMAGE of this VALLEY: then the state is what it tells. */
        static boolean restore(int[] row, int size, Plan plan, State state) {
            int people = HEAD + plan.cells;
            int last = people + plan.people * PERSON_BYTES;
            if (size != last + 1 || size > row.length || row[last] != check(row, last)) {
                return false;
            }
            state.keptSize = 0;
            state.day = row[0] * 256 + row[1];
            if (state.day > MOST_DAY) {
                return false;
            }
            for (int i = 0; i < plan.cells; i++) {
                state.dew[i] = row[HEAD + i];
                if (state.dew[i] > MOST_DEW) {
                    return false;
                }
            }
            for (int i = 0; i < plan.people; i++) {
                if (!restorePerson(row, people + i * PERSON_BYTES, plan, state, i)) {
                    return false;
                }
            }
            return true;
        }

        private static boolean restorePerson(int[] row, int from, Plan plan, State state, int person) {
            int gate = plan.cellAt(row[from], row[from + 1]);
            int sheet = row[from + 3];
            int purse = row[from + 4] * 256 + row[from + 5];
            state.gate[person] = gate;
            state.up[person] = row[from + 2];
            state.sheet[person] = sheet;
            state.purse[person] = purse;
            return gate != NONE && row[from + 2] <= LAST_HOUR
                && sheet >= 1 && sheet <= MOST_SHEET && purse <= MOST_PURSE;
        }
    }
}
