import java.util.ArrayList;
import java.util.HashMap;
import java.util.HashSet;
import java.util.List;
import java.util.Map;
import java.util.Set;
import java.util.TreeSet;

/**
 * A third reading of the document: the whole face. Each step is done with a whole list of rows, and
 * what was asked for is worked out afterwards, from the last step back to INNER; nothing of how the
 * class, or the model of ModelTests, goes about it is used here.
 */
final class Reading {
  private static final int NONE = -1, BAD = -2, NOT = -3, FULL = -4;
  private static final int NULL = 1, INDEX = 2, CAST = 3, STORE = 4, SIZE = 5;
  private static final int EQUAL = 1, LESS = 2, MORE = 3, UNION = 4, DISTINCT = 5, GROUP = 6, FILTER = 7, JOIN = 8, EQUAL_JOIN = 9;
  private static final int COUNT = 0, SUM = 1, LEAST = 2, GREATEST = 3, AVERAGE = 4, ONLY = 5, EXISTS = 6, IN = 7;
  private static final int ALL = Integer.MAX_VALUE;

  /** A value is NONE where it is MISSING; the pair is NONE till a row has one; from: the row ahead it came of. */
  private record Row(int k, int v, int pair, int from) {
    boolean like(Row o) { return k == o.k && v == o.v && pair == o.pair; }
  }

  private record Host(int k, int v) {}

  private record Step(int code, int figure) {}

  private record Question(int plan, List<Step> steps, int end) {}

  private static final class Told {
    int error = NONE, read, handedOn, opened, mostOpen;
    final List<Integer> answers = new ArrayList<>(), log = new ArrayList<>();

    boolean like(Told o) { return error == o.error && (error != NONE || answers.equals(o.answers)); }
  }

  private static final class Sheet {
    final int form;
    final List<Integer> items = new ArrayList<>();

    Sheet(int form, int n) {
      this.form = form;
      for (int i = 0; i < n; i++) items.add(0);
    }

    /** The number of the form's range that is the same but for whole turns of it. */
    void set(int i, long v) {
      long turn = form == 0 ? 1L << 8 : form == 1 ? 1L << 16 : 1L << 32;
      items.set(i, (int) (Math.floorMod(v + turn / 2, turn) - turn / 2));
    }
  }

  private final String[] texts = {"", "", ""};
  private final Sheet[] sheets = new Sheet[4];
  // Read anew when a text changes: they are asked for too often to be read at each call.
  private final int[] faults = {NONE, NONE, NONE};
  private List<Host> outer = List.of(), inner = List.of();
  private List<Step> steps = List.of();
  private final Map<Question, Told> asked = new HashMap<>();
  private int end = COUNT, finding = 0;

  // ---- texts

  String textOf(int text) { return texts[text]; }

  int type(int text, int b) {
    if (text < 0 || text > 2 || b < 0 || b > 255) return BAD;
    if (texts[text].length() >= (text == 2 ? 12 : 29)) return FULL;
    return change(text, texts[text] + (char) b).length();
  }

  int wipe(int text) {
    if (text < 0 || text > 2) return BAD;
    int had = texts[text].length();
    change(text, "");
    return had;
  }

  int undo(int text) {
    if (text < 0 || text > 2) return BAD;
    if (texts[text].isEmpty()) return NOT;
    return change(text, texts[text].substring(0, texts[text].length() - 1)).length();
  }

  private String change(int text, String to) {
    asked.clear();
    texts[text] = to;
    faults[text] = faultOf(text, to);
    if (text == 0) outer = rowsOf(faults[0] == NONE ? to : "");
    else if (text == 1) inner = rowsOf(faults[1] == NONE ? to : "");
    else steps = stepsOf(faults[2] == NONE ? to : "");
    return to;
  }

  int fault(int text) {
    return text < 0 || text > 2 ? BAD : faults[text];
  }

  private static int faultOf(int text, String t) {
    for (int at = 0; at < t.length(); at++) if (!canGoOn(text, t.substring(0, at + 1))) return at;
    return well(text, t) ? NONE : t.length();
  }

  /** Whether two more bytes at most make it a text that is well. */
  private static boolean canGoOn(int text, String t) {
    String[] further = text == 2 ? new String[] {"", "0"} : new String[] {"", "0", "00"};
    for (String f : further) if (well(text, t + f)) return true;
    return false;
  }

  private static boolean well(int text, String t) {
    if (t.isEmpty()) return true;
    if (text == 2) {
      for (char c = '0'; c <= '9'; c++) t = t.replace("f" + c, "e");
      for (char c : t.toCharArray()) if ("elmudg".indexOf(c) < 0) return false;
      return true;
    }
    String[] rows = t.split(";", -1);
    for (String r : rows) {
      if (r.length() != 2) return false;
      for (char c : r.toCharArray()) if ("-0123456789".indexOf(c) < 0) return false;
    }
    return rows.length <= 10;
  }

  private static List<Host> rowsOf(String t) {
    List<Host> rows = new ArrayList<>();
    if (t.isEmpty()) return rows;
    for (String r : t.split(";")) rows.add(new Host("0123456789".indexOf(r.charAt(0)), "0123456789".indexOf(r.charAt(1))));
    return rows;
  }

  private static List<Step> stepsOf(String t) {
    List<Step> all = new ArrayList<>();
    for (int i = 0; i < t.length(); i++) {
      if (t.charAt(i) >= '0' && t.charAt(i) <= '9') continue;
      int code = "elmudgf".indexOf(t.charAt(i)) + 1;
      all.add(new Step(code, code == FILTER ? t.charAt(i + 1) - '0' : NONE));
    }
    return all;
  }

  int row(int table, int row, int what) {
    if (table < 0 || table > 1 || what < 0 || what > 1) return BAD;
    List<Host> rows = table == 0 ? outer : inner;
    if (row < 0 || row >= rows.size()) return BAD;
    return what == 0 ? rows.get(row).k : rows.get(row).v;
  }

  int step(int step, int what) {
    if (step < 0 || step >= steps.size() || what < 0 || what > 1) return BAD;
    return what == 0 ? steps.get(step).code : steps.get(step).figure;
  }

  int end(int kind) {
    if (kind < 0 || kind > 8) return BAD;
    int was = end;
    end = kind;
    return was;
  }

  // ---- what is told of a question

  private static boolean spoken(Step s) { return s.code >= EQUAL && s.code <= UNION; }

  private static boolean spokenBy(int end) { return end >= IN; }

  private static boolean speaksOfAny(List<Step> steps, int end) {
    for (Step s : steps) if (spoken(s)) return true;
    return spokenBy(end);
  }

  private List<Host> domain(List<Step> steps, int end) {
    List<Host> pairs = new ArrayList<>();
    if (!speaksOfAny(steps, end)) return pairs;
    boolean values = spokenBy(end);
    for (Step s : steps) values |= s.code == UNION;
    for (Host h : outer) {
      Host pair = values ? h : new Host(h.k, NONE);
      if (!pairs.contains(pair)) pairs.add(pair);
    }
    return pairs;
  }

  private List<Step> opened(List<Step> steps, int end) {
    List<Step> plan = new ArrayList<>(steps);
    int first = 0;
    while (first < steps.size() && !spoken(steps.get(first))) first++;
    if (first < steps.size() && steps.get(first).code == EQUAL) plan.set(first, new Step(EQUAL_JOIN, NONE));
    else if (first < steps.size() || spokenBy(end)) plan.add(first, new Step(JOIN, NONE));
    return plan;
  }

  /** All that a step hands on, if it is asked for all. */
  private static List<Row> done(Step s, List<Row> ahead, List<Host> pairs) {
    List<Row> out = new ArrayList<>();
    for (int i = 0; i < ahead.size(); i++) {
      Row r = ahead.get(i);
      Row same = new Row(r.k, r.v, r.pair, i);
      int k = r.pair == NONE ? NONE : pairs.get(r.pair).k;
      switch (s.code) {
        case EQUAL: if (r.k != NONE && k != NONE && r.k == k) out.add(same); break;
        case LESS: if (r.k != NONE && k != NONE && r.k < k) out.add(same); break;
        case MORE: out.add(new Row(r.k, r.v == NONE || k == NONE ? NONE : r.v + k, r.pair, i)); break;
        case UNION: out.add(same); break;
        case DISTINCT: if (out.stream().noneMatch(same::like)) out.add(same); break;
        case GROUP: group(same, out); break;
        case FILTER: if (r.v != NONE && r.v >= s.figure) out.add(same); break;
        default:
          for (int p = 0; p < pairs.size(); p++) {
            if (s.code == JOIN || r.k != NONE && pairs.get(p).k == r.k) out.add(new Row(r.k, r.v, p, i));
          }
      }
    }
    for (int p = 0; s.code == UNION && p < pairs.size(); p++) out.add(new Row(pairs.get(p).k, pairs.get(p).v, p, ALL));
    return out;
  }

  private static void group(Row r, List<Row> groups) {
    for (int g = 0; g < groups.size(); g++) {
      Row of = groups.get(g);
      if (of.k == r.k && of.pair == r.pair) {
        groups.set(g, new Row(of.k, of.v + 1, of.pair, ALL));
        return;
      }
    }
    groups.add(new Row(r.k, 1, r.pair, ALL));
  }

  /** The lists of rows ahead of each step, and behind the last one. */
  private List<List<Row>> stages(List<Step> plan, List<Host> pairs, int pairAtFirst) {
    List<List<Row>> stages = new ArrayList<>();
    List<Row> rows = new ArrayList<>();
    for (Host h : inner) rows.add(new Row(h.k, h.v, pairAtFirst, ALL));
    stages.add(rows);
    for (Step s : plan) {
      rows = done(s, rows, pairs);
      stages.add(rows);
    }
    return stages;
  }

  /** What is handed on when so many rows are wanted of the last one. */
  private static void addCosts(Told told, List<List<Row>> stages, int wanted) {
    int asked = wanted;
    for (int i = stages.size() - 1; i >= 0; i--) {
      List<Row> out = stages.get(i);
      int handed = Math.min(asked, out.size());
      told.handedOn += handed;
      if (i == 0) told.read += handed;
      // It asks ahead till the last row that is wanted is there, or till there is none any more.
      int last = asked > out.size() ? ALL : out.get(asked - 1).from;
      asked = last == ALL ? ALL : last + 1;
    }
  }

  private static void addLog(Told told, List<Step> plan) {
    told.opened += plan.size() + 1;
    told.mostOpen = Math.max(told.mostOpen, plan.size() + 1);
    told.log.add(0);
    for (Step s : plan) told.log.add(s.code);
    for (int i = plan.size() - 1; i >= 0; i--) told.log.add(10 + plan.get(i).code);
    told.log.add(10);
  }

  private static void addAnswer(Told told, int end, List<Integer> vs, int hostV, int host) {
    if (end == ONLY && vs.size() >= 2) {
      told.error = host;
      return;
    }
    List<Integer> there = new ArrayList<>(vs);
    there.removeIf(v -> v == NONE);
    told.answers.add(ofValues(end, vs, there, hostV));
  }

  private static int ofValues(int end, List<Integer> vs, List<Integer> there, int hostV) {
    if (end == COUNT) return vs.size();
    if (end == EXISTS) return vs.isEmpty() ? 0 : 1;
    if (end == IN) return in(vs, hostV);
    if (end > IN) return new int[] {NONE, 1, 0}[in(vs, hostV) + 1];
    if (there.isEmpty()) return NONE;
    int sum = 0;
    for (int v : there) sum += v;
    if (end == SUM) return sum;
    if (end == AVERAGE) return Float.floatToIntBits((float) sum / (float) there.size());
    TreeSet<Integer> inOrder = new TreeSet<>(there);
    return end == GREATEST ? inOrder.last() : end == LEAST ? inOrder.first() : there.get(0);
  }

  private static int in(List<Integer> vs, int hostV) {
    if (hostV != NONE && vs.contains(hostV)) return 1;
    if (vs.isEmpty()) return 0;
    return hostV == NONE || vs.contains(NONE) ? NONE : 0;
  }

  private Told rowByRow(List<Step> steps, int end) {
    Question name = new Question(0, steps, end);
    if (asked.containsKey(name)) return asked.get(name);
    Told told = new Told();
    List<Host> hosts = outer;
    for (int h = 0; h < hosts.size() && told.error == NONE; h++) {
      List<List<Row>> stages = stages(steps, List.of(hosts.get(h)), 0);
      addCosts(told, stages, end == ONLY ? 2 : end == EXISTS ? 1 : ALL);
      addLog(told, steps);
      addAnswer(told, end, valuesOf(stages.get(steps.size()), 0), hosts.get(h).v, h);
    }
    asked.put(name, told);
    return told;
  }

  private static List<Integer> valuesOf(List<Row> rows, int pair) {
    List<Integer> vs = new ArrayList<>();
    for (Row r : rows) if (r.pair == pair) vs.add(r.v);
    return vs;
  }

  private Told free(List<Step> steps, int end) {
    Question name = new Question(1, steps, end);
    if (asked.containsKey(name)) return asked.get(name);
    Told told = new Told();
    List<Host> hosts = outer, pairs = domain(steps, end);
    List<Step> plan = opened(steps, end);
    List<List<Row>> stages = stages(plan, pairs, NONE);
    addCosts(told, stages, ALL);
    addLog(told, plan);
    Set<Integer> withV = new HashSet<>();
    for (Host p : pairs) if (p.v != NONE) withV.add(p.v);
    for (int h = 0; h < hosts.size() && told.error == NONE; h++) {
      Host host = hosts.get(h);
      int pair = pairs.indexOf(withV.contains(host.v) ? host : new Host(host.k, NONE));
      addAnswer(told, end, valuesOf(stages.get(plan.size()), pair), host.v, h);
    }
    asked.put(name, told);
    return told;
  }

  private Told told(int plan) { return plan == 0 ? rowByRow(steps, end) : free(steps, end); }

  // ---- answers

  int error(int plan) {
    if (plan < 0 || plan > 1) return BAD;
    return told(plan).error;
  }

  int answer(int plan, int host) {
    if (plan < 0 || plan > 1 || host < 0 || host >= outer.size()) return BAD;
    return told(plan).error != NONE ? NOT : told(plan).answers.get(host);
  }

  int same() { return told(0).like(told(1)) ? 1 : 0; }

  int total() {
    if (told(0).error != NONE) return NOT;
    int ints = 0;
    float floats = 0;
    for (int a : told(0).answers) {
      if (a == NONE) continue;
      ints += a;
      floats += Float.intBitsToFloat(a);
    }
    return end == AVERAGE ? Float.floatToIntBits(floats) : ints;
  }

  // ---- plans

  int speaks() {
    int bits = spokenBy(end) ? 1 << 12 : 0;
    for (int i = 0; i < steps.size(); i++) if (spoken(steps.get(i))) bits += 1 << i;
    return bits;
  }

  int domain(int i, int what) {
    if (i < NONE || i > 9 || what < 0 || what > 1) return BAD;
    List<Host> pairs = domain(steps, end);
    if (i == NONE) return pairs.size();
    if (i >= pairs.size()) return NOT;
    return what == 0 ? pairs.get(i).k : pairs.get(i).v;
  }

  int plan(int i) {
    if (i < 0 || i > 19) return BAD;
    List<Step> plan = opened(steps, end);
    return i == 0 ? 0 : i <= plan.size() ? plan.get(i - 1).code : NONE;
  }

  int cost(int plan, int what) {
    if (plan < 0 || plan > 1 || what < 0 || what > 4) return BAD;
    Told t = told(plan);
    return new int[] {t.read, t.handedOn, t.opened, t.mostOpen, 0}[what];
  }

  int log(int plan, int i) {
    if (plan < 0 || plan > 1 || i < 0 || i > 199) return BAD;
    return i < told(plan).log.size() ? told(plan).log.get(i) : NONE;
  }

  int spare() {
    int bits = 0;
    for (int i = 0; i < steps.size(); i++) {
      List<Step> others = new ArrayList<>(steps);
      others.remove(i);
      if (rowByRow(others, end).like(told(0))) bits += 1 << i;
    }
    return bits;
  }

  // ---- sheets

  private int found(int number) {
    finding = number;
    return -10 - number;
  }

  int sheet(int s, int form, int n) {
    if (s < 0 || s > 3 || form < 0 || form > 2 || n > 60) return BAD;
    if (n < 0) return found(SIZE);
    sheets[s] = new Sheet(form, n);
    return n;
  }

  int lose(int s) {
    if (s < 0 || s > 3) return BAD;
    if (sheets[s] == null) return found(NULL);
    int had = sheets[s].items.size();
    sheets[s] = null;
    return had;
  }

  private int wrongItem(int s, int form, int i) {
    if (s < 0 || s > 3 || form < 0 || form > 2) return BAD;
    if (sheets[s] == null) return found(NULL);
    if (sheets[s].form != form) return found(CAST);
    return i < 0 || i >= sheets[s].items.size() ? found(INDEX) : 1;
  }

  int put(int s, int form, int i, int v) {
    int wrong = wrongItem(s, form, i);
    if (wrong == 1) sheets[s].set(i, v);
    return wrong;
  }

  int get(int s, int form, int i) { return wrongItem(s, form, i) == 1 ? sheets[s].items.get(i) : Integer.MIN_VALUE; }

  int copy(int s, int i, int t, int j, int n) {
    if (s < 0 || s > 3 || t < 0 || t > 3) return BAD;
    if (sheets[s] == null || sheets[t] == null) return found(NULL);
    if (sheets[s].form != sheets[t].form) return found(STORE);
    if (i < 0 || j < 0 || n < 0) return found(INDEX);
    if ((long) i + n > sheets[s].items.size() || (long) j + n > sheets[t].items.size()) return found(INDEX);
    List<Integer> asTheyWere = new ArrayList<>(sheets[s].items.subList(i, i + n));
    for (int at = 0; at < n; at++) sheets[t].items.set(j + at, asTheyWere.get(at));
    return 1;
  }

  int write(int plan, int s) {
    if (plan < 0 || plan > 1 || s < 0 || s > 3) return BAD;
    if (sheets[s] == null) return found(NULL);
    if (told(plan).error != NONE) return NOT;
    int n = 0;
    while (n < sheets[s].items.size() && n < told(plan).answers.size()) {
      sheets[s].set(n, told(plan).answers.get(n));
      n++;
    }
    return n;
  }

  int read(int text, int s) {
    if (text < 0 || text > 2 || s < 0 || s > 3) return BAD;
    if (sheets[s] == null) return found(NULL);
    int n = 0;
    for (int item : sheets[s].items) {
      if (type(text, item) < 0) break;
      n++;
    }
    return n;
  }

  int count(int what) {
    switch (what) {
      case 0: case 1: return what == 0 ? outer.size() : inner.size();
      case 2: return steps.size();
      case 3: return end;
      case 4: return (texts[0] + texts[1] + texts[2]).length();
      case 5: return domain(steps, end).size();
      case 6: return opened(steps, end).size() + 1;
      case 7: return told(0).read;
      case 8: return finding;
      default: return BAD;
    }
  }

  // ---- digest, in the document's words

  private long h;

  private void becomes(long each) { h = 31 * h + each; }

  long digest() {
    h = 17;
    for (int it = 0; it <= 7; it++) becomes(count(it));
    for (int it = 0; it <= 2; it++) becomes(fault(it));
    for (int it = 0; it <= 9; it++) {
      becomes(row(0, it, 0));
      becomes(row(0, it, 1));
      becomes(row(1, it, 0));
      becomes(row(1, it, 1));
    }
    for (int it = 0; it <= 11; it++) {
      becomes(step(it, 0));
      becomes(step(it, 1));
      becomes(plan(it));
    }
    becomes(speaks());
    becomes(domain(NONE, 0));
    becomes(same());
    becomes(total());
    becomes(spare());
    for (int plan = 0; plan <= 1; plan++) {
      errorAndAnswers(plan);
      for (int it = 0; it <= 4; it++) becomes(cost(plan, it));
      for (int it = 0; it <= 59; it++) becomes(log(plan, it));
    }
    for (int it = 0; it <= 9; it++) {
      becomes(domain(it, 0));
      becomes(domain(it, 1));
    }
    int told = end;
    for (int kind = 0; kind <= 8; kind++) {
      end = kind;
      for (int plan = 0; plan <= 1; plan++) errorAndAnswers(plan);
    }
    end = told;
    return h;
  }

  private void errorAndAnswers(int plan) {
    becomes(error(plan));
    for (int host = 0; host < outer.size(); host++) becomes(answer(plan, host));
  }
}
