import java.util.ArrayList;
import java.util.List;

/**
 * All promises together: runs of 512 calls, each answer held against a third reading of the document
 * (src/test/support/Reading.java), so that what one call changes shows in what others tell later.
 */
public final class TogetherTests {
  private static final int MOST_CALLS = 512;
  private static final int RUNS = 1000;
  private static final int LAST_CALLS = 25;

  // A fixed sequence of numbers, so that every run of the tests makes the same calls.
  private static long seed = 12;

  private static int wrong = 0, compared = 0;

  private static int pick(int n) {
    seed = seed * 6364136223846793005L + 1442695040888963407L;
    return (int) ((seed >>> 33) % n);
  }

  private static final int[] EDGES = {-1, -2, -11, 2, 3, 4, 5, 8, 9, 10, 11, 12, 19, 20, 29, 59, 60, 61, 127, 128, 199, 200, 255, 256, 32768, 65536,
      Integer.MIN_VALUE, Integer.MAX_VALUE};

  /** A number below a bound, and now and then one at an edge of some call. */
  private static int number(int bound) {
    return pick(25) == 0 ? EDGES[pick(EDGES.length)] : pick(bound);
  }

  // ---- one run

  private final UnnestPlans x = new UnnestPlans();
  private final Reading due = new Reading();
  private final List<String> calls = new ArrayList<>();
  // How many figures the tables have: with few of them keys and values often meet.
  private final int figures = 2 + pick(9);
  private boolean broken = false;

  private void same(String call, long got, long want) {
    calls.add(call + " -> " + got);
    compared++;
    if (got == want || broken) return;
    broken = true;
    wrong++;
    if (wrong > 10) return;
    int from = Math.max(0, calls.size() - LAST_CALLS);
    System.out.println("texts " + due.textOf(0) + " | " + due.textOf(1) + " | " + due.textOf(2) + ", the last of " + calls.size() + " calls:");
    for (String c : calls.subList(from, calls.size())) System.out.println("  " + c);
    System.out.println("  due is " + want);
  }

  private boolean mayGoOn() { return calls.size() < MOST_CALLS && !broken; }

  private char likely(int text) {
    String t = due.textOf(text);
    if (pick(40) == 0) return (char) pick(256);
    if (text < 2) return t.length() % 3 == 2 ? ';' : pick(6) == 0 ? '-' : (char) ('0' + Math.min(9, pick(figures)));
    if (t.endsWith("f")) return (char) ('0' + pick(5));
    return "elmudgf".charAt(pick(t.length() == 11 ? 6 : 7));
  }

  private void type(int text) {
    int b = likely(text);
    same("type(" + text + ", " + b + ")", x.type(text, b), due.type(text, b));
  }

  /** Bytes to a length at which the text is likely to be well. */
  private void typeMany(int text) {
    int to = text == 2 ? pick(13) : 3 * pick(11) - 1;
    while (mayGoOn() && due.textOf(text).length() < to) type(text);
    if (text == 2 && due.textOf(2).endsWith("f") && mayGoOn()) type(2);
  }

  private void changeTexts() {
    int text = number(3);
    switch (pick(8)) {
      case 0: same("wipe(" + text + ")", x.wipe(text), due.wipe(text)); break;
      case 1: case 2: same("undo(" + text + ")", x.undo(text), due.undo(text)); break;
      case 3: { int b = number(256); same("type(" + text + ", " + b + ")", x.type(text, b), due.type(text, b)); break; }
      case 4: { int kind = number(9); same("end(" + kind + ")", x.end(kind), due.end(kind)); break; }
      default: typeMany(pick(3));
    }
  }

  private void askTexts() {
    int table = number(2), row = number(10), what = number(2), text = number(3), step = number(12);
    switch (pick(3)) {
      case 0: same("fault(" + text + ")", x.fault(text), due.fault(text)); break;
      case 1: same("row(" + table + ", " + row + ", " + what + ")", x.row(table, row, what), due.row(table, row, what)); break;
      default: same("step(" + step + ", " + what + ")", x.step(step, what), due.step(step, what));
    }
  }

  private void askAnswers() {
    int plan = number(2), host = number(10);
    switch (pick(6)) {
      case 0: same("error(" + plan + ")", x.error(plan), due.error(plan)); break;
      case 1: same("same()", x.same(), due.same()); break;
      case 2: same("total()", x.total(), due.total()); break;
      default: same("answer(" + plan + ", " + host + ")", x.answer(plan, host), due.answer(plan, host));
    }
  }

  private void askPlans() {
    int plan = number(2), what = number(2), pair = number(11) - 1, cost = number(5), at = number(pick(2) == 0 ? 30 : 200), place = number(15);
    switch (pick(7)) {
      case 0: same("speaks()", x.speaks(), due.speaks()); break;
      case 1: same("domain(" + pair + ", " + what + ")", x.domain(pair, what), due.domain(pair, what)); break;
      case 2: same("plan(" + place + ")", x.plan(place), due.plan(place)); break;
      case 3: same("log(" + plan + ", " + at + ")", x.log(plan, at), due.log(plan, at)); break;
      case 4: same("spare()", x.spare(), due.spare()); break;
      default: same("cost(" + plan + ", " + cost + ")", x.cost(plan, cost), due.cost(plan, cost));
    }
  }

  private int formOf(int s) {
    // Mostly the form with which it was made, so that items are reached.
    return pick(8) == 0 ? number(3) : s % 3;
  }

  /** What is put is often a byte that a text can go on with. */
  private int item() {
    int kind = pick(4);
    return kind == 0 ? "0123456789-;elmudgf".charAt(pick(19)) : kind == 1 ? number(256) : kind == 2 ? pick(1 << 20) - (1 << 19) : likely(pick(3));
  }

  private void useSheets() {
    int s = number(4), t = number(4), i = number(12), j = number(12), n = number(6), v = item(), form = formOf(s);
    switch (pick(11)) {
      case 0: { int size = pick(6) == 0 ? number(61) : number(14); same("sheet(" + s + ", " + form + ", " + size + ")", x.sheet(s, form, size), due.sheet(s, form, size)); break; }
      case 1: if (pick(4) == 0) same("lose(" + s + ")", x.lose(s), due.lose(s)); break;
      case 2: case 3: case 4: case 5: same("put(" + s + ", " + form + ", " + i + ", " + v + ")", x.put(s, form, i, v), due.put(s, form, i, v)); break;
      case 6: case 7: same("get(" + s + ", " + form + ", " + i + ")", x.get(s, form, i), due.get(s, form, i)); break;
      case 8: case 9: {
        int from = pick(3) == 0 ? t : (s + 3) % 4;
        same("copy(" + s + ", " + i + ", " + from + ", " + j + ", " + n + ")", x.copy(s, i, from, j, n), due.copy(s, i, from, j, n));
        break;
      }
      default: moveSheets(s);
    }
  }

  private void moveSheets(int s) {
    int plan = number(2), text = number(3);
    if (pick(3) > 0) same("write(" + plan + ", " + s + ")", x.write(plan, s), due.write(plan, s));
    else same("read(" + text + ", " + s + ")", x.read(text, s), due.read(text, s));
  }

  private void countOrDigest() {
    int what = number(9);
    if (pick(3) == 0) same("digest()", x.digest(), due.digest());
    else same("count(" + what + ")", x.count(what), due.count(what));
  }

  private void run() {
    for (int text = 0; text < 3; text++) typeMany(text);
    while (mayGoOn()) {
      switch (pick(8)) {
        case 0: changeTexts(); break;
        case 1: askTexts(); break;
        case 2: case 3: askAnswers(); break;
        case 4: askPlans(); break;
        case 5: case 6: useSheets(); break;
        default: countOrDigest();
      }
    }
  }

  public static void main(String[] args) {
    for (int run = 0; run < RUNS; run++) new TogetherTests().run();
    System.out.println(compared + " answers of " + RUNS + " runs compared, " + wrong + " runs not as due");
    if (wrong != 0) System.exit(1);
  }
}
