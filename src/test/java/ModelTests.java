import java.util.ArrayList;
import java.util.LinkedHashMap;
import java.util.LinkedHashSet;
import java.util.List;
import java.util.Map;
import java.util.Set;

/**
 * A second, slow reading of the document, in which rows are really asked for one by one, compared
 * with the class on many questions: promises 5 to 18, 26 and 27.
 */
public final class ModelTests {
  private static int wrong = 0;
  private static int asked = 0;

  private static void due(String question, String call, long got, long want) {
    asked++;
    if (got != want) {
      wrong++;
      if (wrong <= 40) System.out.println(question + ": " + call + " answered " + got + ", due is " + want);
    }
  }

  // ---- the model

  record Pair(Integer k, Integer v) {}
  record Row(Integer k, Integer v, Pair pair) {}
  record Step(int code, int figure) {}

  /** Something that is open: asked for a row, it answers one, or null when there is none any more. */
  interface Source { Row ask(); }

  static final class Costs {
    int read, handedOn, opened, open, mostOpen;
    final List<Integer> log = new ArrayList<>();
    void open(int code) { opened++; open++; mostOpen = Math.max(mostOpen, open); log.add(code); }
    void shut(int code) { open--; log.add(10 + code); }
  }

  static final class Told {
    int error = -1;
    final List<Integer> answers = new ArrayList<>();
    final List<Float> means = new ArrayList<>();
    final Costs costs = new Costs();
    boolean like(Told o) { return error == o.error && (error >= 0 || answers.equals(o.answers)); }
    int answer(int host) { return error >= 0 ? -3 : answers.get(host); }
  }

  static final class Model {
    final String[] texts;
    List<Pair> outer, inner;
    List<Step> steps;
    int end;

    Model(String outerText, String innerText, String stepsText, int end) {
      texts = new String[] {outerText, innerText, stepsText};
      outer = fault(0) < 0 ? table(outerText) : List.of();
      inner = fault(1) < 0 ? table(innerText) : List.of();
      steps = fault(2) < 0 ? steps(stepsText) : List.of();
      this.end = end;
    }

    int fault(int text) {
      // The longest beginning that some well-formed text begins with tells where it cannot go on.
      String t = texts[text];
      String whole = text < 2 ? "([0-9-]{2}(;[0-9-]{2})*)?" : "([elmudg]|f[0-9])*";
      String part = text < 2 ? "([0-9-]{2};)*[0-9-]{0,2}" : "([elmudg]|f[0-9])*f?";
      if (t.matches(whole)) return -1;
      for (int n = t.length(); n > 0; n--) if (t.substring(0, n).matches(part)) return n;
      return 0;
    }

    static Integer value(char c) { return c == '-' ? null : c - '0'; }

    static List<Pair> table(String t) {
      List<Pair> rows = new ArrayList<>();
      if (!t.isEmpty()) for (String r : t.split(";")) rows.add(new Pair(value(r.charAt(0)), value(r.charAt(1))));
      return rows;
    }

    static List<Step> steps(String t) {
      List<Step> list = new ArrayList<>();
      for (int i = 0; i < t.length(); i++) {
        int code = " elmudgf".indexOf(t.charAt(i));
        list.add(new Step(code, code == 7 ? t.charAt(++i) - '0' : -1));
      }
      return list;
    }

    boolean endSpeaks() { return end == 7 || end == 8; }

    int speaks() {
      int bits = endSpeaks() ? 4096 : 0;
      for (int i = 0; i < steps.size(); i++) if (steps.get(i).code <= 4) bits |= 1 << i;
      return bits;
    }

    List<Pair> domain() {
      if (speaks() == 0) return List.of();
      boolean values = endSpeaks() || steps.stream().anyMatch(s -> s.code == 4);
      Set<Pair> pairs = new LinkedHashSet<>();
      for (Pair host : outer) pairs.add(values ? host : new Pair(host.k, null));
      return new ArrayList<>(pairs);
    }

    /** What FREE opens: codes, with the figure of a filter in the hundreds. */
    List<Step> free() {
      List<Step> plan = new ArrayList<>();
      plan.add(new Step(0, -1));
      boolean joined = speaks() == 0;
      for (Step s : steps) {
        if (!joined && s.code <= 4) {
          joined = true;
          if (s.code == 1) { plan.add(new Step(9, -1)); continue; }
          plan.add(new Step(8, -1));
        }
        plan.add(s);
      }
      if (!joined) plan.add(new Step(8, -1));
      return plan;
    }

    Source open(Step s, Source ahead, List<Pair> pairs, Costs c) {
      c.open(s.code);
      Source bare = switch (s.code) {
        case 0 -> inner(pairs);
        case 1 -> filter(ahead, r -> r.k != null && r.k.equals(r.pair.k));
        case 2 -> filter(ahead, r -> r.k != null && r.pair.k != null && r.k < r.pair.k);
        case 3 -> more(ahead);
        case 4 -> union(ahead, pairs);
        case 5 -> distinct(ahead);
        case 6 -> group(ahead);
        case 7 -> filter(ahead, r -> r.v != null && r.v >= s.figure);
        case 8 -> join(ahead, pairs, false);
        default -> join(ahead, pairs, true);
      };
      return () -> {
        Row r = bare.ask();
        if (r != null) { c.handedOn++; if (s.code == 0) c.read++; }
        return r;
      };
    }

    interface Test { boolean stays(Row r); }

    Source inner(List<Pair> pairs) {
      int[] at = {0};
      Pair only = pairs.size() == 1 ? pairs.get(0) : null;
      return () -> at[0] < inner.size() ? new Row(inner.get(at[0]).k, inner.get(at[0]++).v, only) : null;
    }

    static Source filter(Source ahead, Test t) {
      return () -> {
        Row r = ahead.ask();
        while (r != null && !t.stays(r)) r = ahead.ask();
        return r;
      };
    }

    static Source more(Source ahead) {
      return () -> {
        Row r = ahead.ask();
        if (r == null) return null;
        return new Row(r.k, r.v == null || r.pair.k == null ? null : Integer.valueOf(r.v + r.pair.k), r.pair);
      };
    }

    static Source union(Source ahead, List<Pair> pairs) {
      int[] at = {0};
      return () -> {
        Row r = at[0] == 0 ? ahead.ask() : null;
        if (r != null) return r;
        if (at[0] >= pairs.size()) return null;
        Pair p = pairs.get(at[0]++);
        return new Row(p.k, p.v, p);
      };
    }

    static Source distinct(Source ahead) {
      Set<Row> seen = new LinkedHashSet<>();
      return filter(ahead, seen::add);
    }

    static Source group(Source ahead) {
      List<Row> groups = new ArrayList<>();
      boolean[] gathered = {false};
      return () -> {
        if (!gathered[0]) {
          gathered[0] = true;
          Map<Row, Integer> sizes = new LinkedHashMap<>();
          for (Row r = ahead.ask(); r != null; r = ahead.ask()) sizes.merge(new Row(r.k, null, r.pair), 1, Integer::sum);
          sizes.forEach((r, n) -> groups.add(new Row(r.k, n, r.pair)));
        }
        return groups.isEmpty() ? null : groups.remove(0);
      };
    }

    static Source join(Source ahead, List<Pair> pairs, boolean equal) {
      List<Row> waiting = new ArrayList<>();
      return () -> {
        while (waiting.isEmpty()) {
          Row r = ahead.ask();
          if (r == null) return null;
          for (Pair p : pairs) if (!equal || r.k != null && r.k.equals(p.k)) waiting.add(new Row(r.k, r.v, p));
        }
        return waiting.remove(0);
      };
    }

    /** Adds the answer for the rows that are left; false: an error. */
    boolean tell(List<Integer> vs, Integer hostV, Told told) {
      if (end == 5 && vs.size() > 1) return false;
      List<Integer> there = vs.stream().filter(v -> v != null).toList();
      int sum = there.stream().mapToInt(v -> v).sum();
      float mean = there.isEmpty() ? 0 : (float) sum / there.size();
      int in = hostV != null && there.contains(hostV) ? 1
          : vs.isEmpty() || hostV != null && there.size() == vs.size() ? 0 : -1;
      told.means.add(mean);
      told.answers.add(switch (end) {
        case 0 -> vs.size();
        case 2 -> there.stream().mapToInt(v -> v).min().orElse(-1);
        case 3 -> there.stream().mapToInt(v -> v).max().orElse(-1);
        case 4 -> there.isEmpty() ? -1 : Float.floatToIntBits(mean);
        case 6 -> vs.isEmpty() ? 0 : 1;
        case 7 -> in;
        case 8 -> in < 0 ? in : 1 - in;
        default -> there.isEmpty() ? -1 : sum;
      });
      return true;
    }

    Told rowByRow() {
      Told told = new Told();
      List<Step> plan = new ArrayList<>(steps);
      plan.add(0, new Step(0, -1));
      for (int h = 0; h < outer.size() && told.error < 0; h++) {
        Source last = null;
        for (Step s : plan) last = open(s, last, List.of(outer.get(h)), told.costs);
        List<Integer> vs = new ArrayList<>();
        int most = end == 5 ? 2 : end == 6 ? 1 : Integer.MAX_VALUE;
        while (vs.size() < most) {
          Row r = last.ask();
          if (r == null) break;
          vs.add(r.v);
        }
        if (!tell(vs, outer.get(h).v, told)) told.error = h;
        for (int i = plan.size() - 1; i >= 0; i--) told.costs.shut(plan.get(i).code);
      }
      return told;
    }

    Told byFree() {
      Told told = new Told();
      List<Pair> pairs = domain();
      // A single pair must come to the rows by the join too, never ahead of it.
      Source last = null;
      for (Step s : free()) last = s.code == 0 ? open(s, null, List.of(), told.costs) : open(s, last, pairs, told.costs);
      List<Row> rows = new ArrayList<>();
      for (Row r = last.ask(); r != null; r = last.ask()) rows.add(r);
      boolean values = pairs.stream().anyMatch(p -> p.v != null);
      for (int h = 0; h < outer.size() && told.error < 0; h++) {
        Pair host = outer.get(h);
        Pair mine = pairs.isEmpty() ? null : pairs.contains(host) && (values || host.v == null) ? host : new Pair(host.k, null);
        List<Integer> vs = new ArrayList<>();
        for (Row r : rows) if (mine == null ? r.pair == null : mine.equals(r.pair)) vs.add(r.v);
        if (!tell(vs, host.v, told)) told.error = h;
      }
      for (int i = free().size() - 1; i >= 0; i--) told.costs.shut(free().get(i).code);
      return told;
    }

    int total(Told told) {
      if (told.error >= 0) return -3;
      int sum = 0;
      float means = 0;
      for (int h = 0; h < outer.size(); h++) {
        if (told.answers.get(h) == -1) continue;
        sum += told.answers.get(h);
        means += told.means.get(h);
      }
      return end == 4 ? Float.floatToIntBits(means) : sum;
    }

    int spare() {
      Told base = rowByRow();
      List<Step> all = steps;
      int bits = 0;
      for (int i = 0; i < all.size(); i++) {
        steps = new ArrayList<>(all);
        steps.remove(i);
        if (rowByRow().like(base)) bits |= 1 << i;
      }
      steps = all;
      return bits;
    }
  }

  // ---- comparing

  private static int orNone(Integer v) { return v == null ? -1 : v; }

  private static int cost(Told t, int what) {
    return switch (what) {
      case 0 -> t.costs.read;
      case 1 -> t.costs.handedOn;
      case 2 -> t.costs.opened;
      case 3 -> t.costs.mostOpen;
      default -> t.costs.open;
    };
  }

  private static void compare(Model m, UnnestPlans x) {
    String q = m.texts[0] + " | " + m.texts[1] + " | " + m.texts[2] + " | " + m.end;
    Told[] told = {m.rowByRow(), m.byFree()};
    List<Pair> domain = m.domain();
    List<Step> free = m.free();
    long h = 17;
    int[] counts = {m.outer.size(), m.inner.size(), m.steps.size(), m.end,
        m.texts[0].length() + m.texts[1].length() + m.texts[2].length(), domain.size(), free.size(), told[0].costs.read};
    for (int i = 0; i < 8; i++) { due(q, "count(" + i + ")", x.count(i), counts[i]); h = 31 * h + counts[i]; }
    for (int i = 0; i < 3; i++) { due(q, "fault(" + i + ")", x.fault(i), m.fault(i)); h = 31 * h + m.fault(i); }
    for (int r = 0; r < 10; r++) for (int t = 0; t < 2; t++) for (int w = 0; w < 2; w++) {
      List<Pair> rows = t == 0 ? m.outer : m.inner;
      int want = r >= rows.size() ? -2 : orNone(w == 0 ? rows.get(r).k : rows.get(r).v);
      due(q, "row(" + t + ", " + r + ", " + w + ")", x.row(t, r, w), want);
      h = 31 * h + want;
    }
    for (int i = 0; i < 12; i++) {
      int code = i < m.steps.size() ? m.steps.get(i).code : -2, figure = i < m.steps.size() ? m.steps.get(i).figure : -2;
      int opened = i < free.size() ? free.get(i).code : -1;
      due(q, "step(" + i + ", 0)", x.step(i, 0), code);
      due(q, "step(" + i + ", 1)", x.step(i, 1), figure);
      due(q, "plan(" + i + ")", x.plan(i), opened);
      h = 31 * (31 * (31 * h + code) + figure) + opened;
    }
    for (int i = 12; i < 20; i++) due(q, "plan(" + i + ")", x.plan(i), i < free.size() ? free.get(i).code : -1);
    int same = told[0].like(told[1]) ? 1 : 0;
    due(q, "both plans tell the same", same, 1);
    int[] some = {m.speaks(), domain.size(), same, m.total(told[0]), m.spare()};
    int[] got = {x.speaks(), x.domain(-1, 0), x.same(), x.total(), x.spare()};
    String[] names = {"speaks()", "domain(-1, 0)", "same()", "total()", "spare()"};
    for (int i = 0; i < 5; i++) { due(q, names[i], got[i], some[i]); h = 31 * h + some[i]; }
    for (int p = 0; p < 2; p++) {
      h = compareAnswers(q, m, told[p], p, x, h);
      for (int w = 0; w < 5; w++) { due(q, "cost(" + p + ", " + w + ")", x.cost(p, w), cost(told[p], w)); h = 31 * h + cost(told[p], w); }
      for (int i = 0; i < 200; i++) {
        int want = i < told[p].costs.log.size() ? told[p].costs.log.get(i) : -1;
        due(q, "log(" + p + ", " + i + ")", x.log(p, i), want);
        if (i < 60) h = 31 * h + want;
      }
    }
    for (int i = 0; i < 10; i++) for (int w = 0; w < 2; w++) {
      int want = i >= domain.size() ? -3 : orNone(w == 0 ? domain.get(i).k : domain.get(i).v);
      due(q, "domain(" + i + ", " + w + ")", x.domain(i, w), want);
      h = 31 * h + want;
    }
    int end = m.end;
    for (m.end = 0; m.end < 9; m.end++) {
      h = compareAnswers(q, m, m.rowByRow(), 0, null, h);
      h = compareAnswers(q, m, m.byFree(), 1, null, h);
    }
    m.end = end;
    due(q, "digest()", x.digest(), h);
    due(q, "digest() again", x.digest(), h);
    due(q, "count(3) behind digest()", x.count(3), end);
  }

  private static long compareAnswers(String q, Model m, Told told, int p, UnnestPlans x, long start) {
    if (x != null) due(q, "error(" + p + ")", x.error(p), told.error);
    long h = 31 * start + told.error;
    for (int i = 0; i < m.outer.size(); i++) {
      if (x != null) due(q, "answer(" + p + ", " + i + ")", x.answer(p, i), told.answer(i));
      h = 31 * h + told.answer(i);
    }
    return h;
  }

  private static void typeAll(UnnestPlans x, int text, String s) {
    x.wipe(text);
    for (int i = 0; i < s.length(); i++) x.type(text, s.charAt(i));
  }

  // ---- questions

  // A fixed sequence of numbers, so that every run of the tests asks the same questions.
  private static long seed = 20261117;

  private static int pick(int n) {
    seed = seed * 6364136223846793005L + 1442695040888963407L;
    return (int) ((seed >>> 33) % n);
  }

  private static String table(int most, int figures) {
    StringBuilder b = new StringBuilder();
    int n = pick(most + 1);
    for (int i = 0; i < n; i++) {
      if (i > 0) b.append(';');
      for (int j = 0; j < 2; j++) b.append(pick(5) == 0 ? '-' : (char) ('0' + pick(figures)));
    }
    return b.toString();
  }

  private static String stepText(int most) {
    StringBuilder b = new StringBuilder();
    int n = pick(most + 1);
    while (b.length() < n) {
      char c = "elmudgf".charAt(pick(7));
      if (c == 'f' && b.length() + 2 > 12) continue;
      b.append(c);
      if (c == 'f') b.append(pick(4));
    }
    return b.toString();
  }

  private static String spoiled(String s, int most) {
    if (pick(12) > 0) return s;
    StringBuilder b = new StringBuilder(s);
    if (b.length() < most && pick(2) == 0) b.insert(pick(b.length() + 1), "5;-xfe".charAt(pick(6)));
    else if (b.length() > 0) b.deleteCharAt(pick(b.length()));
    return b.toString();
  }

  private static void askMany() {
    UnnestPlans x = new UnnestPlans();
    for (int i = 0; i < 6000; i++) {
      // Several questions to one object, so that what an earlier one left behind would show.
      if (i % 3 == 0) x = new UnnestPlans();
      int figures = 2 + pick(9);
      if (figures > 10) figures = 10;
      String o = spoiled(table(10, figures), 29), n = spoiled(table(10, figures), 29), s = spoiled(stepText(12), 12);
      int end = pick(9);
      typeAll(x, 0, o);
      typeAll(x, 1, n);
      typeAll(x, 2, s);
      x.end(end);
      compare(new Model(o, n, s, end), x);
    }
  }

  private static void askAllShortSteps() {
    String[] steps = {"", "e", "l", "m", "u", "d", "g", "f2"};
    UnnestPlans x = new UnnestPlans();
    typeAll(x, 0, "12;34;1-;-5;12;32;20");
    typeAll(x, 1, "13;14;32;-1;1-;32;02;20");
    for (String a : steps) for (String b : steps) for (String c : steps) {
      typeAll(x, 2, a + b + c);
      for (int end = 0; end < 9; end++) {
        x.end(end);
        compare(new Model("12;34;1-;-5;12;32;20", "13;14;32;-1;1-;32;02;20", a + b + c, end), x);
      }
    }
  }

  private static void askTheLargest() {
    String o = "09;18;27;36;45;54;63;72;81;90", n = "99;98;97;96;95;94;93;92;91;90";
    String[] steps = {"uuuuuuuuuuuu", "mmmmmmmmmmmm", "uuuuuudddddd", "ugugugugugug", "udmudmudmudm", "dguuuuuuuuuu",
        "eeeeeeeeeeee", "llllllllllll", "dddddddddddd", "gggggggggggg", "f0f0f0f0f0f0", "uuuuuuuuuuug", "uuuuuuuuuuud"};
    for (String s : steps) for (int end = 0; end < 9; end++) {
      UnnestPlans x = new UnnestPlans();
      typeAll(x, 0, o);
      typeAll(x, 1, n);
      typeAll(x, 2, s);
      x.end(end);
      compare(new Model(o, n, s, end), x);
    }
  }

  public static void main(String[] args) {
    askMany();
    askAllShortSteps();
    askTheLargest();
    System.out.println(asked + " answers compared, " + wrong + " not as due");
    if (wrong != 0) System.exit(1);
  }
}
