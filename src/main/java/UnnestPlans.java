import java.util.Arrays;

/**
 * A question asked of one table (INNER) for each row of another one (OUTER), answered row by row
 * and by a plan that asks for no row of OUTER any more. The document is ../shared/DOC.md.
 */
public final class UnnestPlans {
    public static final int NONE = -1, BAD = -2, NOT = -3, FULL = -4;

    private static final int OUTER_TEXT = 0, INNER_TEXT = 1, STEPS_TEXT = 2, TABLES = 2, TEXTS = 3;
    private static final int TABLE_BYTES = 29, STEPS_BYTES = 12, MOST_BYTE = 255;
    private static final int MOST_ROWS = 10, MOST_STEPS = 12;

    // What can be opened, by its number in the log.
    private static final int INNER = 0, EQUAL = 1, LESS = 2, MORE = 3, UNION = 4, DISTINCT = 5;
    private static final int GROUP = 6, FILTER = 7, JOIN = 8, EQUAL_JOIN = 9, SHUT = 10;

    private static final int COUNT = 0, SUM = 1, LEAST = 2, GREATEST = 3, AVERAGE = 4, ONLY = 5;
    private static final int EXISTS = 6, IN = 7, NOT_IN = 8, ENDS = 9;

    private static final int ROW_BY_ROW = 0, FREE = 1;
    private static final int END_BIT = 12;

    // INNER, twelve steps and the join.
    private static final int MOST_OPENED = 14;
    // Ten rows joined with ten pairs, and ten pairs more by each of twelve unions.
    private static final int MOST_KEPT = 220;
    private static final int LOG_SIZE = 200, DIGEST_LOG = 60, PLAN_PLACES = 20, COSTS = 5;
    private static final int EVERY_ROW = 1000000;

    private static final int SHEETS = 4, FORMS = 3, BYTES = 0, SHORTS = 1, MOST_ITEMS = 60;
    private static final int NULL = 1, INDEX = 2, CAST = 3, STORE = 4, SIZE = 5;
    private static final int LEAST_INT = 1 << 31;
    private static final int COUNTS_IN_DIGEST = 8;

    // A row on its way is one int, so that what is kept of it costs one element.
    private static final int VALUE_SHIFT = 8, PAIR_SHIFT = 20, KEY_MASK = 0xff, VALUE_MASK = 0xfff;
    private static final int WITHOUT_VALUE = ~(VALUE_MASK << VALUE_SHIFT), ONE_MORE = 1 << VALUE_SHIFT;
    private static final int GONE = -1;

    private final Text[] texts = new Text[TEXTS];
    private final Sheet[] sheets = new Sheet[SHEETS];
    private final Question question = new Question();
    private final Run byRow;
    private final Run byFree;
    // For what is only tried (another end, a step left out), so that what is told stays as it is.
    private final Run tried;
    private int end = COUNT;
    private int finding = 0;
    private boolean stale = true;

    public UnnestPlans() {
        texts[OUTER_TEXT] = new Text(TABLE_BYTES);
        texts[INNER_TEXT] = new Text(TABLE_BYTES);
        texts[STEPS_TEXT] = new Text(STEPS_BYTES);
        for (int s = 0; s < SHEETS; s++) {
            sheets[s] = new Sheet();
        }
        Kept kept = new Kept();
        byRow = new Run(kept);
        byFree = new Run(kept);
        tried = new Run(kept);
    }

    // ---- texts

    public int type(int text, int b) {
        if (!within(text, TEXTS) || !isByte(b)) {
            return BAD;
        }
        if (!texts[text].append(b)) {
            return FULL;
        }
        understand(text);
        return texts[text].size;
    }

    public int wipe(int text) {
        if (!within(text, TEXTS)) {
            return BAD;
        }
        int had = texts[text].size;
        texts[text].size = 0;
        understand(text);
        return had;
    }

    public int undo(int text) {
        if (!within(text, TEXTS)) {
            return BAD;
        }
        if (texts[text].size == 0) {
            return NOT;
        }
        texts[text].size--;
        understand(text);
        return texts[text].size;
    }

    public int fault(int text) {
        if (!within(text, TEXTS)) {
            return BAD;
        }
        return text == STEPS_TEXT ? question.steps.fault : tableOf(text).fault;
    }

    public int row(int table, int row, int what) {
        if (!within(table, TABLES) || !within(what, 2) || !within(row, tableOf(table).size)) {
            return BAD;
        }
        return what == 0 ? tableOf(table).keys[row] : tableOf(table).values[row];
    }

    public int step(int step, int what) {
        if (!within(what, 2) || !within(step, question.steps.size)) {
            return BAD;
        }
        return what == 0 ? question.steps.codes[step] : question.steps.figures[step];
    }

    public int end(int kind) {
        if (!within(kind, ENDS)) {
            return BAD;
        }
        int was = end;
        end = kind;
        stale = true;
        return was;
    }

    // ---- answers

    public int error(int plan) {
        if (!isPlan(plan)) {
            return BAD;
        }
        refresh();
        return runOf(plan).report.error;
    }

    public int answer(int plan, int host) {
        if (!isPlan(plan) || !within(host, hosts())) {
            return BAD;
        }
        refresh();
        return runOf(plan).report.answerOf(host);
    }

    public int same() {
        refresh();
        return sameBit();
    }

    public int total() {
        refresh();
        return byRow.report.together(end, hosts());
    }

    // ---- plans

    public int speaks() {
        return question.steps.speakingBits() | (endSpeaks(end) ? 1 << END_BIT : 0);
    }

    public int domain(int i, int what) {
        if (i < NONE || i >= MOST_ROWS || !within(what, 2)) {
            return BAD;
        }
        refresh();
        return i == NONE ? byFree.pairs.size : pairPart(i, what);
    }

    public int plan(int i) {
        if (!within(i, PLAN_PLACES)) {
            return BAD;
        }
        refresh();
        return byFree.course.codeAt(i);
    }

    public int cost(int plan, int what) {
        if (!isPlan(plan) || !within(what, COSTS)) {
            return BAD;
        }
        refresh();
        return runOf(plan).report.costOf(what);
    }

    public int log(int plan, int i) {
        if (!isPlan(plan) || !within(i, LOG_SIZE)) {
            return BAD;
        }
        refresh();
        return runOf(plan).report.loggedAt(i);
    }

    public int spare() {
        refresh();
        return spareBits();
    }

    // ---- sheets

    public int sheet(int s, int form, int n) {
        if (!within(s, SHEETS) || !within(form, FORMS) || n > MOST_ITEMS) {
            return BAD;
        }
        if (n < 0) {
            return found(SIZE);
        }
        sheets[s].renew(form, n);
        return n;
    }

    public int lose(int s) {
        if (!within(s, SHEETS)) {
            return BAD;
        }
        if (sheets[s].isLost()) {
            return found(NULL);
        }
        int had = sheets[s].size;
        sheets[s].forget();
        return had;
    }

    public int put(int s, int form, int i, int v) {
        if (!within(s, SHEETS) || !within(form, FORMS)) {
            return BAD;
        }
        int wrong = sheets[s].findingAt(form, i);
        if (wrong != 0) {
            return found(wrong);
        }
        sheets[s].assign(i, v);
        return 1;
    }

    public int get(int s, int form, int i) {
        if (!within(s, SHEETS) || !within(form, FORMS)) {
            return LEAST_INT;
        }
        int wrong = sheets[s].findingAt(form, i);
        if (wrong != 0) {
            finding = wrong;
            return LEAST_INT;
        }
        return sheets[s].items[i];
    }

    public int copy(int s, int i, int t, int j, int n) {
        if (!within(s, SHEETS) || !within(t, SHEETS)) {
            return BAD;
        }
        if (sheets[s].isLost() || sheets[t].isLost()) {
            return found(NULL);
        }
        if (sheets[s].form != sheets[t].form) {
            return found(STORE);
        }
        if (!sheets[s].hasRange(i, n) || !sheets[t].hasRange(j, n)) {
            return found(INDEX);
        }
        System.arraycopy(sheets[s].items, i, sheets[t].items, j, n);
        return 1;
    }

    public int write(int plan, int s) {
        if (!isPlan(plan) || !within(s, SHEETS)) {
            return BAD;
        }
        if (sheets[s].isLost()) {
            return found(NULL);
        }
        refresh();
        Report report = runOf(plan).report;
        if (report.error != NONE) {
            return NOT;
        }
        int n = Math.min(sheets[s].size, hosts());
        for (int host = 0; host < n; host++) {
            sheets[s].assign(host, report.answerOf(host));
        }
        return n;
    }

    public int read(int text, int s) {
        if (!within(text, TEXTS) || !within(s, SHEETS)) {
            return BAD;
        }
        if (sheets[s].isLost()) {
            return found(NULL);
        }
        int taken = texts[text].appendFrom(sheets[s]);
        understand(text);
        return taken;
    }

    public int count(int what) {
        if (what == COUNTS_IN_DIGEST) {
            return finding;
        }
        if (!within(what, COUNTS_IN_DIGEST)) {
            return BAD;
        }
        refresh();
        return counted(what);
    }

    public long digest() {
        refresh();
        long h = 17;
        for (int what = 0; what < COUNTS_IN_DIGEST; what++) {
            h = mix(h, counted(what));
        }
        h = mixTexts(h);
        h = mix(h, speaks());
        h = mix(h, byFree.pairs.size);
        h = mix(h, sameBit());
        h = mix(h, byRow.report.together(end, hosts()));
        h = mix(h, spareBits());
        h = mixReport(h, byRow.report);
        h = mixReport(h, byFree.report);
        for (int i = 0; i < MOST_ROWS; i++) {
            h = mix(h, pairPart(i, 0));
            h = mix(h, pairPart(i, 1));
        }
        return mixEnds(h);
    }

    // ---- parts of the calls above

    private static boolean within(int i, int n) {
        return i >= 0 && i < n;
    }

    private static boolean isByte(int b) {
        return b >= 0 && b <= MOST_BYTE;
    }

    private static boolean isPlan(int plan) {
        return plan == ROW_BY_ROW || plan == FREE;
    }

    private Run runOf(int plan) {
        return plan == ROW_BY_ROW ? byRow : byFree;
    }

    private Table tableOf(int text) {
        return text == OUTER_TEXT ? question.outer : question.inner;
    }

    private int hosts() {
        return question.outer.size;
    }

    private int found(int number) {
        finding = number;
        return -10 - number;
    }

    private void understand(int text) {
        if (text == STEPS_TEXT) {
            question.steps.parse(texts[text]);
        } else {
            tableOf(text).parse(texts[text]);
        }
        stale = true;
    }

    private void refresh() {
        if (stale) {
            byRow.askRowByRow(question, end, NONE);
            byFree.askFree(question, end);
            stale = false;
        }
    }

    private int sameBit() {
        return byRow.report.isLike(byFree.report, hosts()) ? 1 : 0;
    }

    private int pairPart(int i, int what) {
        if (!within(i, byFree.pairs.size)) {
            return NOT;
        }
        return what == 0 ? byFree.pairs.keys[i] : byFree.pairs.values[i];
    }

    private int spareBits() {
        int bits = 0;
        for (int i = 0; i < question.steps.size; i++) {
            tried.askRowByRow(question, end, i);
            if (tried.report.isLike(byRow.report, hosts())) {
                bits |= 1 << i;
            }
        }
        return bits;
    }

    private int counted(int what) {
        switch (what) {
            case 0: return question.outer.size;
            case 1: return question.inner.size;
            case 2: return question.steps.size;
            case 3: return end;
            case 4: return texts[OUTER_TEXT].size + texts[INNER_TEXT].size + texts[STEPS_TEXT].size;
            case 5: return byFree.pairs.size;
            case 6: return byFree.course.size;
            default: return byRow.report.read;
        }
    }

    private static long mix(long h, int x) {
        return 31 * h + x;
    }

    private long mixTexts(long start) {
        long h = start;
        for (int text = 0; text < TEXTS; text++) {
            h = mix(h, fault(text));
        }
        for (int i = 0; i < MOST_ROWS; i++) {
            h = mix(mix(h, row(0, i, 0)), row(0, i, 1));
            h = mix(mix(h, row(1, i, 0)), row(1, i, 1));
        }
        for (int i = 0; i < MOST_STEPS; i++) {
            h = mix(mix(h, step(i, 0)), step(i, 1));
            h = mix(h, byFree.course.codeAt(i));
        }
        return h;
    }

    private long mixReport(long start, Report report) {
        long h = mixAnswers(start, report);
        for (int what = 0; what < COSTS; what++) {
            h = mix(h, report.costOf(what));
        }
        for (int i = 0; i < DIGEST_LOG; i++) {
            h = mix(h, report.loggedAt(i));
        }
        return h;
    }

    private long mixAnswers(long start, Report report) {
        long h = mix(start, report.error);
        for (int host = 0; host < hosts(); host++) {
            h = mix(h, report.answerOf(host));
        }
        return h;
    }

    private long mixEnds(long start) {
        long h = start;
        for (int kind = 0; kind < ENDS; kind++) {
            tried.askRowByRow(question, kind, NONE);
            h = mixAnswers(h, tried.report);
            tried.askFree(question, kind);
            h = mixAnswers(h, tried.report);
        }
        return h;
    }

    private static boolean endSpeaks(int kind) {
        return kind == IN || kind == NOT_IN;
    }

    private static boolean isFigure(int b) {
        return b >= '0' && b <= '9';
    }

    // ---- floats

    /** What floatToIntBits() tells of a float that is 0 or a normal one above it. */
    private static int bitsOf(float x) {
        if (!(x > 0f)) {
            return 0;
        }
        int exponent = 127;
        float part = x;
        for (int i = 0; i < 127 && part >= 2f; i++) {
            part = part / 2f;
            exponent++;
        }
        for (int i = 0; i < 126 && part < 1f; i++) {
            part = part * 2f;
            exponent--;
        }
        return exponent << 23 | (int) ((part - 1f) * 8388608f);
    }

    // ---- what was typed

    private static final class Text {
        final int[] bytes;
        int size = 0;

        Text(int most) {
            bytes = new int[most];
        }

        boolean append(int b) {
            if (size >= bytes.length) {
                return false;
            }
            bytes[size] = b;
            size++;
            return true;
        }

        /** How many items came: behind one that is no byte none may, as behind the last place. */
        int appendFrom(Sheet sheet) {
            for (int i = 0; i < sheet.size; i++) {
                if (!isByte(sheet.items[i]) || !append(sheet.items[i])) {
                    return i;
                }
            }
            return sheet.size;
        }
    }

    private static final class Question {
        final Table outer = new Table();
        final Table inner = new Table();
        final Steps steps = new Steps();
    }

    private static final class Table {
        final int[] keys = new int[MOST_ROWS];
        final int[] values = new int[MOST_ROWS];
        int size = 0;
        int fault = NONE;

        void parse(Text text) {
            fault = firstWrong(text);
            size = fault == NONE ? (text.size + 1) / 3 : 0;
            for (int i = 0; i < size; i++) {
                keys[i] = valueOf(text.bytes[3 * i]);
                values[i] = valueOf(text.bytes[3 * i + 1]);
            }
        }

        private static int firstWrong(Text text) {
            for (int i = 0; i < text.size; i++) {
                int b = text.bytes[i];
                boolean fits = i % 3 == 2 ? b == ';' : isFigure(b) || b == '-';
                if (!fits || i / 3 >= MOST_ROWS) {
                    return i;
                }
            }
            return text.size == 0 || text.size % 3 == 2 ? NONE : text.size;
        }

        private static int valueOf(int b) {
            return b == '-' ? NONE : b - '0';
        }
    }

    private static final class Steps {
        final int[] codes = new int[MOST_STEPS];
        final int[] figures = new int[MOST_STEPS];
        int size = 0;
        int fault = NONE;

        void parse(Text text) {
            size = 0;
            fault = NONE;
            for (int i = 0; i < text.size && fault == NONE; i++) {
                int code = codeOf(text.bytes[i]);
                if (code == NONE) {
                    fault = i;
                } else if (code != FILTER) {
                    add(code, NONE);
                } else {
                    i++;
                    if (i < text.size && isFigure(text.bytes[i])) {
                        add(code, text.bytes[i] - '0');
                    } else {
                        fault = i;
                    }
                }
            }
            if (fault != NONE) {
                size = 0;
            }
        }

        private void add(int code, int figure) {
            if (size < MOST_STEPS) {
                codes[size] = code;
                figures[size] = figure;
                size++;
            }
        }

        private static int codeOf(int b) {
            switch (b) {
                case 'e': return EQUAL;
                case 'l': return LESS;
                case 'm': return MORE;
                case 'u': return UNION;
                case 'd': return DISTINCT;
                case 'g': return GROUP;
                case 'f': return FILTER;
                default: return NONE;
            }
        }

        private boolean speaksAt(int i) {
            return codes[i] <= UNION;
        }

        int speakingBits() {
            int bits = 0;
            for (int i = 0; i < size; i++) {
                if (speaksAt(i)) {
                    bits |= 1 << i;
                }
            }
            return bits;
        }

        int firstSpeaking() {
            for (int i = 0; i < size; i++) {
                if (speaksAt(i)) {
                    return i;
                }
            }
            return NONE;
        }

        boolean hasUnion() {
            for (int i = 0; i < size; i++) {
                if (codes[i] == UNION) {
                    return true;
                }
            }
            return false;
        }
    }

    // ---- plans

    /** What a plan opens, in order. */
    private static final class Course {
        final int[] codes = new int[MOST_OPENED];
        final int[] figures = new int[MOST_OPENED];
        int size = 0;
        int joinAt = NONE;

        void layRowByRow(Steps steps, int leftOut) {
            begin();
            for (int i = 0; i < steps.size; i++) {
                if (i != leftOut) {
                    add(steps.codes[i], steps.figures[i]);
                }
            }
        }

        void layFree(Steps steps, int end) {
            int first = steps.firstSpeaking();
            begin();
            for (int i = 0; i < steps.size; i++) {
                boolean isJoin = i == first && steps.codes[i] == EQUAL;
                if (i == first) {
                    addJoin(isJoin ? EQUAL_JOIN : JOIN);
                }
                if (!isJoin) {
                    add(steps.codes[i], steps.figures[i]);
                }
            }
            if (first == NONE && endSpeaks(end)) {
                addJoin(JOIN);
            }
        }

        int codeAt(int i) {
            return within(i, size) ? codes[i] : NONE;
        }

        private void begin() {
            size = 0;
            joinAt = NONE;
            add(INNER, NONE);
        }

        private void addJoin(int code) {
            joinAt = size;
            add(code, NONE);
        }

        private void add(int code, int figure) {
            if (size < MOST_OPENED) {
                codes[size] = code;
                figures[size] = figure;
                size++;
            }
        }
    }

    /** The pairs that stand for hosts: by FREE the domain, row by row the one host. */
    private static final class Pairs {
        final int[] keys = new int[MOST_ROWS];
        final int[] values = new int[MOST_ROWS];
        // Where each host's pair stands; 0 for all if there is no domain.
        final int[] places = new int[MOST_ROWS];
        int size = 0;

        void setOne(int key, int value) {
            keys[0] = key;
            values[0] = value;
            size = 1;
        }

        void setNone() {
            size = 0;
            Arrays.fill(places, 0);
        }

        void gather(Table outer, boolean withValues) {
            size = 0;
            for (int host = 0; host < outer.size; host++) {
                places[host] = placeOf(outer.keys[host], withValues ? outer.values[host] : NONE);
            }
        }

        int keyAt(int pair) {
            return pair >= 0 && pair < size ? keys[pair] : NONE;
        }

        int valueAt(int pair) {
            return pair >= 0 && pair < size ? values[pair] : NONE;
        }

        private int placeOf(int key, int value) {
            for (int i = 0; i < size; i++) {
                if (keys[i] == key && values[i] == value) {
                    return i;
                }
            }
            if (size >= MOST_ROWS) {
                return 0;
            }
            keys[size] = key;
            values[size] = value;
            size++;
            return size - 1;
        }
    }

    /** What came of a plan: answers or an error, and what it cost. */
    private static final class Report {
        final int[] answers = new int[MOST_ROWS];
        final float[] means = new float[MOST_ROWS];
        final int[] logged = new int[LOG_SIZE];
        int logSize = 0;
        int error = NONE;
        int read = 0;
        int handedOn = 0;
        int opened = 0;
        int open = 0;
        int mostOpen = 0;

        void clear() {
            logSize = 0;
            error = NONE;
            read = 0;
            handedOn = 0;
            opened = 0;
            open = 0;
            mostOpen = 0;
        }

        void openAll(Course course) {
            for (int i = 0; i < course.size; i++) {
                opened++;
                open++;
                mostOpen = Math.max(mostOpen, open);
                tell(course.codes[i]);
            }
        }

        void shutAll(Course course) {
            for (int i = course.size - 1; i >= 0; i--) {
                open--;
                tell(SHUT + course.codes[i]);
            }
        }

        private void tell(int what) {
            if (logSize < LOG_SIZE) {
                logged[logSize] = what;
                logSize++;
            }
        }

        void settle(int host, Tally tally, int end, int hostValue) {
            if (tally.isError(end)) {
                error = host;
            } else {
                answers[host] = tally.outcome(end, hostValue);
                means[host] = tally.mean();
            }
        }

        int answerOf(int host) {
            return error == NONE ? answers[host] : NOT;
        }

        int loggedAt(int i) {
            return within(i, logSize) ? logged[i] : NONE;
        }

        int costOf(int what) {
            switch (what) {
                case 0: return read;
                case 1: return handedOn;
                case 2: return opened;
                case 3: return mostOpen;
                default: return open;
            }
        }

        boolean isLike(Report other, int hosts) {
            if (error != NONE || other.error != NONE) {
                return error == other.error;
            }
            for (int host = 0; host < hosts; host++) {
                if (answers[host] != other.answers[host]) {
                    return false;
                }
            }
            return true;
        }

        int together(int end, int hosts) {
            if (error != NONE) {
                return NOT;
            }
            int sum = 0;
            float meanSum = 0f;
            for (int host = 0; host < hosts; host++) {
                if (answers[host] != NONE) {
                    sum += answers[host];
                    meanSum += means[host];
                }
            }
            return end == AVERAGE ? bitsOf(meanSum) : sum;
        }
    }

    /** What an end needs to know of the rows that are left for one pair. */
    private static final class Tally {
        int rows;
        int present;
        int sum;
        int least;
        int greatest;
        boolean matched;

        void clear() {
            rows = 0;
            present = 0;
            sum = 0;
            least = NONE;
            greatest = NONE;
            matched = false;
        }

        void take(int value, int hostValue) {
            rows++;
            if (value == NONE) {
                return;
            }
            present++;
            sum += value;
            least = least == NONE || value < least ? value : least;
            greatest = value > greatest ? value : greatest;
            matched = matched || value == hostValue;
        }

        boolean isError(int end) {
            return end == ONLY && rows > 1;
        }

        float mean() {
            return present > 0 ? (float) sum / (float) present : 0f;
        }

        int outcome(int end, int hostValue) {
            switch (end) {
                case COUNT: return rows;
                case SUM: return present > 0 ? sum : NONE;
                case LEAST: return least;
                case GREATEST: return greatest;
                case AVERAGE: return present > 0 ? bitsOf(mean()) : NONE;
                case ONLY: return present > 0 ? sum : NONE;
                case EXISTS: return rows > 0 ? 1 : 0;
                case IN: return isIn(hostValue);
                default: return isIn(hostValue) == NONE ? NONE : 1 - isIn(hostValue);
            }
        }

        private int isIn(int hostValue) {
            if (matched) {
                return 1;
            }
            return rows == 0 || hostValue != NONE && present == rows ? 0 : NONE;
        }
    }

    /** Room for what steps keep while they are open, and for tallies: one for all runs. */
    private static final class Kept {
        final int[][] rows = new int[MOST_OPENED][MOST_KEPT];
        final int[] sizes = new int[MOST_OPENED];
        final Tally[] tallies = new Tally[MOST_ROWS];

        Kept() {
            for (int i = 0; i < MOST_ROWS; i++) {
                tallies[i] = new Tally();
            }
        }

        void clear() {
            Arrays.fill(sizes, 0);
            for (int i = 0; i < MOST_ROWS; i++) {
                tallies[i].clear();
            }
        }

        boolean isNew(int place, int row) {
            for (int i = 0; i < sizes[place]; i++) {
                if (rows[place][i] == row) {
                    return false;
                }
            }
            if (sizes[place] < MOST_KEPT) {
                rows[place][sizes[place]] = row;
                sizes[place]++;
            }
            return true;
        }

        void addToGroup(int place, int row) {
            int group = row & WITHOUT_VALUE;
            for (int i = 0; i < sizes[place]; i++) {
                if ((rows[place][i] & WITHOUT_VALUE) == group) {
                    rows[place][i] += ONE_MORE;
                    return;
                }
            }
            if (sizes[place] < MOST_KEPT) {
                // A value stands one higher in a packed row: 0 there is a missing one.
                rows[place][sizes[place]] = group + 2 * ONE_MORE;
                sizes[place]++;
            }
        }
    }

    /**
     * One plan carried out. A row is pushed on as soon as it is there, and no more once the end has
     * what it wants: what is handed on is then the same as if the end had asked for it.
     */
    private static final class Run {
        final Course course = new Course();
        final Pairs pairs = new Pairs();
        final Report report = new Report();
        private final Kept kept;
        private int wanted = EVERY_ROW;
        private int arrived = 0;

        Run(Kept kept) {
            this.kept = kept;
        }

        void askRowByRow(Question question, int end, int leftOut) {
            Table outer = question.outer;
            course.layRowByRow(question.steps, leftOut);
            report.clear();
            wanted = end == ONLY ? 2 : end == EXISTS ? 1 : EVERY_ROW;
            for (int host = 0; host < outer.size && report.error == NONE; host++) {
                pairs.setOne(outer.keys[host], outer.values[host]);
                begin();
                readInner(question.inner);
                handOnKept();
                report.settle(host, kept.tallies[0], end, outer.values[host]);
                report.shutAll(course);
            }
        }

        void askFree(Question question, int end) {
            Table outer = question.outer;
            course.layFree(question.steps, end);
            report.clear();
            wanted = EVERY_ROW;
            if (course.joinAt == NONE) {
                pairs.setNone();
            } else {
                pairs.gather(outer, endSpeaks(end) || question.steps.hasUnion());
            }
            begin();
            readInner(question.inner);
            handOnKept();
            for (int host = 0; host < outer.size && report.error == NONE; host++) {
                report.settle(host, kept.tallies[pairs.places[host]], end, outer.values[host]);
            }
            report.shutAll(course);
        }

        private void begin() {
            arrived = 0;
            kept.clear();
            report.openAll(course);
        }

        private void readInner(Table inner) {
            for (int i = 0; i < inner.size && arrived < wanted; i++) {
                report.read++;
                report.handedOn++;
                feed(packed(inner.keys[i], inner.values[i], 0), 1);
            }
        }

        /** In the order of the plan, because what one step hands on late may be kept by a later one. */
        private void handOnKept() {
            for (int place = 1; place < course.size; place++) {
                int code = course.codes[place];
                for (int i = 0; code == UNION && i < pairs.size && arrived < wanted; i++) {
                    report.handedOn++;
                    feed(packed(pairs.keys[i], pairs.values[i], i), place + 1);
                }
                for (int i = 0; code == GROUP && i < kept.sizes[place] && arrived < wanted; i++) {
                    report.handedOn++;
                    feed(kept.rows[place][i], place + 1);
                }
            }
        }

        /** Takes a row through the plan from a place on, and through the join if that is still to come. */
        private void feed(int row, int from) {
            if (course.joinAt < from) {
                arrive(pass(row, from, course.size));
                return;
            }
            int before = pass(row, from, course.joinAt);
            for (int pair = 0; pair < pairs.size && before != GONE; pair++) {
                if (joins(before, pair)) {
                    report.handedOn++;
                    arrive(pass(before | pair << PAIR_SHIFT, course.joinAt + 1, course.size));
                }
            }
        }

        private boolean joins(int row, int pair) {
            int key = keyOf(row);
            return course.codes[course.joinAt] == JOIN || key != NONE && key == pairs.keys[pair];
        }

        private int pass(int row, int from, int to) {
            int left = row;
            for (int place = from; place < to && left != GONE; place++) {
                left = through(place, left);
                if (left != GONE) {
                    report.handedOn++;
                }
            }
            return left;
        }

        private int through(int place, int row) {
            int key = keyOf(row);
            int value = valueOf(row);
            int hostKey = pairs.keyAt(row >> PAIR_SHIFT);
            switch (course.codes[place]) {
                case EQUAL: return key != NONE && key == hostKey ? row : GONE;
                case LESS: return key != NONE && key < hostKey ? row : GONE;
                case MORE: return packed(key, value == NONE || hostKey == NONE ? NONE : value + hostKey,
                        row >> PAIR_SHIFT);
                case DISTINCT: return kept.isNew(place, row) ? row : GONE;
                case GROUP:
                    kept.addToGroup(place, row);
                    return GONE;
                case FILTER: return value != NONE && value >= course.figures[place] ? row : GONE;
                default: return row;
            }
        }

        private void arrive(int row) {
            int pair = row >> PAIR_SHIFT;
            if (row != GONE && within(pair, MOST_ROWS)) {
                arrived++;
                kept.tallies[pair].take(valueOf(row), pairs.valueAt(pair));
            }
        }

        private static int packed(int key, int value, int pair) {
            return pair << PAIR_SHIFT | value + 1 << VALUE_SHIFT | key + 1;
        }

        private static int keyOf(int row) {
            return (row & KEY_MASK) - 1;
        }

        private static int valueOf(int row) {
            return (row >> VALUE_SHIFT & VALUE_MASK) - 1;
        }
    }

    // ---- sheets

    private static final class Sheet {
        // Items are held as ints of the form's range, so that one row serves all forms.
        final int[] items = new int[MOST_ITEMS];
        int form = NONE;
        int size = 0;

        boolean isLost() {
            return form == NONE;
        }

        void forget() {
            form = NONE;
            size = 0;
        }

        void renew(int newForm, int n) {
            form = newForm;
            size = n;
            Arrays.fill(items, 0);
        }

        /** The number of what is found when item i is treated as of a form; 0 if all is well. */
        int findingAt(int asForm, int i) {
            if (isLost()) {
                return NULL;
            }
            if (form != asForm) {
                return CAST;
            }
            return within(i, size) ? 0 : INDEX;
        }

        boolean hasRange(int from, int n) {
            return from >= 0 && n >= 0 && from <= size - n;
        }

        void assign(int i, int v) {
            items[i] = form == BYTES ? (byte) v : form == SHORTS ? (short) v : v;
        }
    }
}
