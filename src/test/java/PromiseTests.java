/** Each promise by hand: ordinary inputs, the edges that the document names, and wrong inputs. */
public final class PromiseTests {
  private static final int LEAST_INT = Integer.MIN_VALUE;
  private static int wrong = 0;
  private static int promise = 0;

  private static void due(String call, long got, long want) {
    if (got != want) {
      wrong++;
      System.out.println("promise " + promise + ": " + call + " answered " + got + ", due is " + want);
    }
  }

  private static void dueAll(String calls, int[] got, int... want) {
    due(calls + ", how many", got.length, want.length);
    for (int i = 0; i < Math.min(got.length, want.length); i++) due(calls + ", the " + i + "th", got[i], want[i]);
  }

  private static void typeAll(UnnestPlans x, int text, String s) {
    for (int i = 0; i < s.length(); i++) x.type(text, s.charAt(i));
  }

  private static UnnestPlans asked(String outer, String inner, String steps, int end) {
    UnnestPlans x = new UnnestPlans();
    typeAll(x, 0, outer);
    typeAll(x, 1, inner);
    typeAll(x, 2, steps);
    x.end(end);
    return x;
  }

  private static int[] answers(UnnestPlans x, int plan) {
    int[] all = new int[x.count(0)];
    for (int host = 0; host < all.length; host++) all[host] = x.answer(plan, host);
    return all;
  }

  private static void dueAnswers(String outer, String inner, String steps, int end, int... want) {
    UnnestPlans x = asked(outer, inner, steps, end);
    for (int plan = 0; plan < 2; plan++) {
      String name = outer + " | " + inner + " | " + steps + " | " + end + ", plan " + plan;
      dueAll(name, answers(x, plan), want);
    }
    due("same()", x.same(), 1);
  }

  private static int[] logOf(UnnestPlans x, int plan) {
    int n = 0;
    while (n < 200 && x.log(plan, n) != -1) n++;
    int[] all = new int[n];
    for (int i = 0; i < n; i++) all[i] = x.log(plan, i);
    return all;
  }

  private static int[] costs(UnnestPlans x, int plan) {
    int[] all = new int[5];
    for (int what = 0; what < 5; what++) all[what] = x.cost(plan, what);
    return all;
  }

  private static int[] planOf(UnnestPlans x) {
    int n = 0;
    while (n < 20 && x.plan(n) != -1) n++;
    int[] all = new int[n];
    for (int i = 0; i < n; i++) all[i] = x.plan(i);
    return all;
  }

  private static void changesNothing(String call, UnnestPlans x, long digest) {
    due("digest() behind " + call, x.digest(), digest);
  }

  // ---- texts

  private static void newObject() {
    UnnestPlans x = new UnnestPlans();
    int[] counts = {0, 0, 0, 0, 0, 0, 1, 0, 0};
    for (int what = 0; what < 9; what++) due("count(" + what + ")", x.count(what), counts[what]);
    for (int text = 0; text < 3; text++) due("wipe(" + text + ")", x.wipe(text), 0);
    for (int s = 0; s < 4; s++) due("lose(" + s + ")", x.lose(s), -11);
    due("end(3)", x.end(3), 0);
    due("spare()", x.spare(), 0);
    due("NONE", UnnestPlans.NONE, -1);
    due("BAD", UnnestPlans.BAD, -2);
    due("NOT", UnnestPlans.NOT, -3);
    due("FULL", UnnestPlans.FULL, -4);
  }

  private static void typing() {
    UnnestPlans x = new UnnestPlans();
    int[] room = {29, 29, 12};
    for (int text = 0; text < 3; text++) {
      for (int i = 1; i <= room[text]; i++) due("type(" + text + ", 255), " + i, x.type(text, 255), i);
      due("type, full", x.type(text, 0), -4);
      due("type, full and bad", x.type(text, 256), -2);
    }
    due("count(4)", x.count(4), 70);
    UnnestPlans y = asked("12", "34", "e", 0);
    long digest = y.digest();
    due("type(3, 1)", y.type(3, 1), -2);
    due("type(-1, 1)", y.type(-1, 1), -2);
    due("type(0, -1)", y.type(0, -1), -2);
    due("type(0, 256)", y.type(0, 256), -2);
    changesNothing("bad typing", y, digest);
    due("type(0, 0)", y.type(0, 0), 3);
  }

  private static void wiping() {
    UnnestPlans x = asked("12", "34;56", "ed", 0);
    due("wipe(1)", x.wipe(1), 5);
    due("wipe(1) again", x.wipe(1), 0);
    due("count(1)", x.count(1), 0);
    due("count(4)", x.count(4), 4);
    due("wipe(0)", x.wipe(0), 2);
    due("count(0)", x.count(0), 0);
    due("wipe(2)", x.wipe(2), 2);
    due("count(2)", x.count(2), 0);
    UnnestPlans y = asked("1", "3x", "f", 0);
    long digest = y.digest();
    due("wipe(3)", y.wipe(3), -2);
    due("wipe(-1)", y.wipe(-1), -2);
    changesNothing("bad wiping", y, digest);
    due("wipe(0), with a fault", y.wipe(0), 1);
    due("fault(0)", y.fault(0), -1);
  }

  private static void undoing() {
    UnnestPlans x = asked("12;", "34", "fe", 0);
    due("count(0), with a fault", x.count(0), 0);
    due("undo(0)", x.undo(0), 2);
    due("count(0)", x.count(0), 1);
    due("row(0, 0, 1)", x.row(0, 0, 1), 2);
    due("undo(2)", x.undo(2), 1);
    due("undo(2)", x.undo(2), 0);
    due("undo(2)", x.undo(2), -3);
    long digest = x.digest();
    due("undo(3)", x.undo(3), -2);
    due("undo(-1)", x.undo(-1), -2);
    changesNothing("refused undoing", x, digest);
  }

  private static void dueFault(int text, String s, int want) {
    UnnestPlans x = new UnnestPlans();
    typeAll(x, text, s);
    due("fault(" + text + ") of " + s, x.fault(text), want);
    if (want != -1) due("count(" + text + ") of " + s, x.count(text), 0);
  }

  private static void faults() {
    for (int text = 0; text < 2; text++) {
      String[] well = {"", "12", "--", "0-;-9", "09;18;27;36;45;54;63;72;81;90"};
      for (String s : well) dueFault(text, s, -1);
      String[] ill = {"1", "12;", "12;3", "x2", "1x", "1;", ";", "12:", "123", "12;;", "/1", ":1", "12;3:", "12-", "+1"};
      int[] places = {1, 3, 4, 0, 1, 1, 0, 2, 2, 3, 0, 0, 4, 2, 0};
      for (int i = 0; i < ill.length; i++) dueFault(text, ill[i], places[i]);
    }
    String[] well = {"", "elmudg", "f0f9", "eeeeeeeeeeee", "f1f2f3f4f5f6"};
    for (String s : well) dueFault(2, s, -1);
    String[] ill = {"f", "ef", "fe", "ff", "x", "ex", "1", "f12", "f/", "f:", "E", "eeeeeeeeeeef", "e;", "f-"};
    int[] places = {1, 2, 1, 1, 0, 1, 0, 2, 1, 1, 0, 12, 1, 1};
    for (int i = 0; i < ill.length; i++) dueFault(2, ill[i], places[i]);
    UnnestPlans x = new UnnestPlans();
    due("fault(3)", x.fault(3), -2);
    due("fault(-1)", x.fault(-1), -2);
  }

  private static void rows() {
    UnnestPlans x = asked("10;-9", "9-;--;05", "", 0);
    int[][] want = {{1, 0, -1, 9}, {9, -1, -1, -1, 0, 5}};
    for (int table = 0; table < 2; table++) {
      for (int i = 0; i < want[table].length; i++) {
        due("row(" + table + ", " + i / 2 + ", " + i % 2 + ")", x.row(table, i / 2, i % 2), want[table][i]);
      }
    }
    due("row(0, 2, 0)", x.row(0, 2, 0), -2);
    due("row(1, 3, 0)", x.row(1, 3, 0), -2);
    due("row(0, -1, 0)", x.row(0, -1, 0), -2);
    due("row(2, 0, 0)", x.row(2, 0, 0), -2);
    due("row(-1, 0, 0)", x.row(-1, 0, 0), -2);
    due("row(0, 0, 2)", x.row(0, 0, 2), -2);
    due("row(0, 0, -1)", x.row(0, 0, -1), -2);
    x.type(0, ';');
    due("row(0, 0, 0), with a fault", x.row(0, 0, 0), -2);
  }

  private static void steps() {
    UnnestPlans x = asked("", "", "elmudgf0f9", 0);
    int[] codes = {1, 2, 3, 4, 5, 6, 7, 7}, figures = {-1, -1, -1, -1, -1, -1, 0, 9};
    for (int i = 0; i < 8; i++) {
      due("step(" + i + ", 0)", x.step(i, 0), codes[i]);
      due("step(" + i + ", 1)", x.step(i, 1), figures[i]);
    }
    due("step(8, 0)", x.step(8, 0), -2);
    due("step(-1, 0)", x.step(-1, 0), -2);
    due("step(0, 2)", x.step(0, 2), -2);
    due("step(0, -1)", x.step(0, -1), -2);
    x.type(2, 'f');
    due("step(0, 0), with a fault", x.step(0, 0), -2);
  }

  private static void ends() {
    UnnestPlans x = asked("11", "13;15", "", 0);
    int was = 0;
    for (int kind = 8; kind >= 0; kind--) {
      due("end(" + kind + ")", x.end(kind), was);
      was = kind;
      due("count(3)", x.count(3), kind);
    }
    x.end(2);
    due("end(9)", x.end(9), -2);
    due("end(-1)", x.end(-1), -2);
    due("count(3), behind refusals", x.count(3), 2);
    due("answer(0, 0), LEAST", x.answer(0, 0), 3);
    x.end(3);
    due("answer(0, 0), GREATEST", x.answer(0, 0), 5);
  }

  // ---- answers

  private static void errors() {
    UnnestPlans x = asked("00;11;22", "00;12;12;22;22", "e", 5);
    due("error(0)", x.error(0), 1);
    due("error(1)", x.error(1), 1);
    due("error(2)", x.error(2), -2);
    due("error(-1)", x.error(-1), -2);
    x.end(0);
    due("error(0), COUNT", x.error(0), -1);
    due("error(1), COUNT", x.error(1), -1);
    // Two rows are an error also where both are missing, and where they are alike.
    for (int plan = 0; plan < 2; plan++) due("error", asked("1-", "1-;1-", "", 5).error(plan), 0);
    // No host, no error.
    for (int plan = 0; plan < 2; plan++) due("error without hosts", asked("", "11;12", "", 5).error(plan), -1);
    for (int plan = 0; plan < 2; plan++) due("error of the later pair", asked("52;-1;31;31", "31;31;-2;-2", "e", 5).error(plan), 2);
  }

  private static void answersOfSteps() {
    dueAnswers("1-;-1;25", "10;12;-3;2-", "e", 0, 2, 0, 1);
    dueAnswers("1-;-1;25;05", "10;12;-3;2-;03", "l", 0, 1, 0, 3, 0);
    dueAnswers("12;-2;31", "10;1-;-4", "m", 1, 6, -1, 10);
    dueAnswers("12;-2;3-", "10;1-", "u", 0, 3, 3, 3);
    dueAnswers("12;-2;3-", "10;1-", "u", 1, 2, 2, 0);
    dueAnswers("12;12", "", "u", 1, 2, 2);
    dueAnswers("12;1-", "12;1-;12;1-;-2;-2", "ud", 0, 3, 3);
    dueAnswers("12;15", "12;12;15", "ud", 0, 2, 2);
    dueAnswers("12", "10;-1;11;--;1-;20", "g", 1, 6);
    dueAnswers("12", "10;-1;11;--;1-;20", "g", 3, 3);
    dueAnswers("12", "10;-1;11;--;1-;20", "g", 0, 3);
    dueAnswers("12;22;-2", "10;11;20;-1", "ug", 3, 3, 2, 2);
    dueAnswers("12", "13;14;15;1-", "f4", 0, 2);
    dueAnswers("12;90", "13;14;15;1-", "mf5", 0, 2, 3);
    dueAnswers("12;15;33", "12;15;33;34", "eu", 1, 9, 12, 10);
    dueAnswers("12;15;33", "12;12;15;33;34", "ed", 0, 2, 2, 2);
    dueAnswers("12", "", "", 0, 0);
    dueAnswers("", "12", "e", 0);
  }

  private static void answersOfEnds() {
    String outer = "12;1-;44;-2;59", inner = "12;15;1-;44;-2;59;58";
    dueAnswers(outer, inner, "e", 0, 3, 3, 1, 0, 2);
    dueAnswers(outer, inner, "e", 1, 7, 7, 4, -1, 17);
    dueAnswers(outer, inner, "e", 2, 2, 2, 4, -1, 8);
    dueAnswers(outer, inner, "e", 3, 5, 5, 4, -1, 9);
    dueAnswers(outer, inner, "e", 4, Float.floatToIntBits(3.5f), Float.floatToIntBits(3.5f), Float.floatToIntBits(4f), -1, Float.floatToIntBits(8.5f));
    dueAnswers(outer, inner, "e", 6, 1, 1, 1, 0, 1);
    dueAnswers(outer, inner, "e", 7, 1, -1, 1, 0, 1);
    dueAnswers(outer, inner, "e", 8, 0, -1, 0, 1, 0);
    dueAnswers("13;18;1-", "12;1-", "e", 7, -1, -1, -1);
    dueAnswers("13;12;1-;2-", "12;14", "e", 7, 0, 1, -1, 0);
    dueAnswers("13;12;1-;2-", "12;14", "e", 8, 1, 0, -1, 1);
    dueAnswers("13;12;1-;33", "12;14", "", 7, 0, 1, -1, 0);
    dueAnswers("12;33;-1", "14;3-", "e", 5, 4, -1, -1);
    dueAnswers("12", "1-", "", 1, -1);
    dueAnswers("12", "1-", "", 2, -1);
    dueAnswers("12", "1-", "", 3, -1);
    dueAnswers("12", "1-", "", 4, -1);
    dueAnswers("12", "10", "", 1, 0);
    dueAnswers("12", "10;10", "", 4, 0);
    dueAnswers("12", "11;11;12", "", 4, Float.floatToIntBits(4f / 3f));
    dueAnswers("12", "10;10;11", "", 4, Float.floatToIntBits(1f / 3f));
    dueAnswers("12", "10;10;10;10;10;10;10;10;10;11", "", 4, Float.floatToIntBits(0.1f));
    UnnestPlans x = asked("12;33", "33;33", "e", 5);
    for (int plan = 0; plan < 2; plan++) {
      due("answer, with an error", x.answer(plan, 0), -3);
      due("answer, with an error and bad", x.answer(plan, 2), -2);
      due("answer, with an error and bad", x.answer(plan, -1), -2);
    }
    due("answer(2, 0)", x.answer(2, 0), -2);
    due("answer(-1, 0)", x.answer(-1, 0), -2);
    x.undo(0);
    due("answer of a text with a fault", x.answer(0, 0), -2);
  }

  private static void sames() {
    due("same() of nothing", new UnnestPlans().same(), 1);
    due("same(), errors", asked("00;11", "12;12", "e", 5).same(), 1);
    // Pairs that are alike in K must both be joined.
    due("same(), alike keys", asked("12;13;12", "12;13", "e", 7).same(), 1);
    due("same(), alike keys", asked("12;13;1-", "12;12", "eud", 1).same(), 1);
  }

  private static void totals() {
    due("total() of nothing", new UnnestPlans().total(), 0);
    due("total(), COUNT", asked("12;34;-1", "12;15;30", "e", 0).total(), 3);
    due("total(), SUM", asked("12;34;-1", "12;15;30", "e", 1).total(), 7);
    due("total(), NOT IN", asked("12;34;-1", "12;1-;30", "e", 8).total(), 2);
    due("total(), AVERAGE", asked("12;34;-1;22", "12;15;30;30;31;20;20;21", "e", 4).total(),
        Float.floatToIntBits(0f + 3.5f + 1f / 3f + 1f / 3f));
    due("total(), AVERAGE of nothing", asked("12", "1-", "e", 4).total(), 0);
    due("total(), AVERAGE without hosts", asked("", "12", "", 4).total(), 0);
    due("total(), error", asked("12;33", "33;33", "e", 5).total(), -3);
    float thirds = 0f;
    for (int i = 0; i < 10; i++) thirds += 1f / 3f;
    due("total(), AVERAGE one after the other", asked("11;12;13;14;15;16;17;18;19;10", "10;10;11", "", 4).total(), Float.floatToIntBits(thirds));
  }

  // ---- plans

  private static void speaking() {
    UnnestPlans x = asked("12", "34", "delmugf1", 0);
    due("speaks()", x.speaks(), 2 + 4 + 8 + 16);
    x.end(7);
    due("speaks(), IN", x.speaks(), 4096 + 2 + 4 + 8 + 16);
    x.wipe(2);
    due("speaks(), IN alone", x.speaks(), 4096);
    x.end(8);
    due("speaks(), NOT IN alone", x.speaks(), 4096);
    x.end(6);
    due("speaks(), EXISTS alone", x.speaks(), 0);
    typeAll(x, 2, "eeeeeeeeeeee");
    due("speaks(), all", x.speaks(), 4095);
    x.undo(2);
    x.type(2, 'f');
    due("speaks(), with a fault", x.speaks(), 0);
  }

  private static void dueDomain(UnnestPlans x, int... want) {
    due("domain(NONE, 0)", x.domain(-1, 0), want.length / 2);
    due("domain(NONE, 1)", x.domain(-1, 1), want.length / 2);
    for (int i = 0; i < 20; i++) {
      due("domain(" + i / 2 + ", " + i % 2 + ")", x.domain(i / 2, i % 2), i < want.length ? want[i] : -3);
    }
  }

  private static void domains() {
    String outer = "12;-3;12;13;--;-3;40";
    for (String steps : new String[] {"e", "l", "m", "dm", "elm"}) dueDomain(asked(outer, "", steps, 0), 1, -1, -1, -1, 4, -1);
    dueDomain(asked(outer, "", "u", 0), 1, 2, -1, 3, 1, 3, -1, -1, 4, 0);
    dueDomain(asked(outer, "", "eu", 0), 1, 2, -1, 3, 1, 3, -1, -1, 4, 0);
    dueDomain(asked(outer, "", "", 7), 1, 2, -1, 3, 1, 3, -1, -1, 4, 0);
    dueDomain(asked(outer, "", "e", 8), 1, 2, -1, 3, 1, 3, -1, -1, 4, 0);
    dueDomain(asked(outer, "11", "dgf1", 6));
    dueDomain(asked("", "11", "e", 0));
    dueDomain(asked("01;12;23;34;45;56;67;78;89;90", "", "u", 0), 0, 1, 1, 2, 2, 3, 3, 4, 4, 5, 5, 6, 6, 7, 7, 8, 8, 9, 9, 0);
    UnnestPlans x = asked(outer, "", "e", 0);
    due("domain(-2, 0)", x.domain(-2, 0), -2);
    due("domain(10, 0)", x.domain(10, 0), -2);
    due("domain(0, 2)", x.domain(0, 2), -2);
    due("domain(0, -1)", x.domain(0, -1), -2);
    due("domain(9, 2)", x.domain(9, 2), -2);
  }

  private static void plansOpened() {
    dueAll("plan of nothing", planOf(new UnnestPlans()), 0);
    dueAll("plan, nothing speaks", planOf(asked("12", "", "dgf1", 0)), 0, 5, 6, 7);
    dueAll("plan, EQUAL", planOf(asked("12", "", "e", 0)), 0, 9);
    dueAll("plan, LESS", planOf(asked("12", "", "l", 0)), 0, 8, 2);
    dueAll("plan, MORE", planOf(asked("12", "", "dm", 0)), 0, 5, 8, 3);
    dueAll("plan, UNION", planOf(asked("12", "", "gu", 0)), 0, 6, 8, 4);
    dueAll("plan, EQUAL behind", planOf(asked("12", "", "dle", 0)), 0, 5, 8, 2, 1);
    dueAll("plan, EQUAL twice", planOf(asked("12", "", "f1eed", 0)), 0, 7, 9, 1, 5);
    dueAll("plan, IN", planOf(asked("12", "", "dg", 7)), 0, 5, 6, 8);
    dueAll("plan, NOT IN alone", planOf(asked("12", "", "", 8)), 0, 8);
    dueAll("plan, EQUAL and IN", planOf(asked("12", "", "ed", 7)), 0, 9, 5);
    dueAll("plan, without hosts", planOf(asked("", "", "l", 0)), 0, 8, 2);
    dueAll("plan, the longest", planOf(asked("12", "", "mmmmmmmmmmmm", 0)), 0, 8, 3, 3, 3, 3, 3, 3, 3, 3, 3, 3, 3, 3);
    UnnestPlans x = asked("12", "", "e", 0);
    due("plan(19)", x.plan(19), -1);
    due("plan(20)", x.plan(20), -2);
    due("plan(-1)", x.plan(-1), -2);
  }

  private static void costsTold() {
    UnnestPlans x = asked("12;34;56", "13;14;35;-1", "ed", 0);
    dueAll("costs row by row", costs(x, 0), 12, 12 + 3 + 3, 9, 3, 0);
    dueAll("costs by FREE", costs(x, 1), 4, 4 + 3 + 3, 3, 3, 0);
    UnnestPlans y = asked("12;34", "13;14;35", "l", 0);
    dueAll("costs row by row, LESS", costs(y, 0), 6, 6 + 2, 4, 2, 0);
    dueAll("costs by FREE, THE JOIN", costs(y, 1), 3, 3 + 6 + 2, 3, 3, 0);
    // EXISTS stops behind the first row, ONLY behind the second one; FREE never stops.
    UnnestPlans z = asked("12;34", "23;14;15;16;35", "e", 6);
    dueAll("costs row by row, EXISTS", costs(z, 0), 2 + 5, 7 + 2, 4, 2, 0);
    dueAll("costs by FREE, EXISTS", costs(z, 1), 5, 5 + 4, 2, 2, 0);
    z.end(5);
    dueAll("costs row by row, ONLY", costs(z, 0), 3, 3 + 2, 2, 2, 0);
    dueAll("costs by FREE, ONLY", costs(z, 1), 5, 5 + 4, 2, 2, 0);
    // GROUP asks for all, but hands on no more than is asked for; UNION only if what is ahead ends.
    UnnestPlans g = asked("12", "23;14;15;16;35", "g", 6);
    dueAll("costs row by row, GROUP", costs(g, 0), 5, 5 + 1, 2, 2, 0);
    UnnestPlans u = asked("12", "23", "u", 6);
    dueAll("costs row by row, UNION and EXISTS", costs(u, 0), 1, 2, 2, 2, 0);
    u.end(5);
    dueAll("costs row by row, UNION and ONLY", costs(u, 0), 1, 1 + 2, 2, 2, 0);
    dueAll("costs without hosts", costs(asked("", "12;13", "e", 0), 0), 0, 0, 0, 0, 0);
    dueAll("costs without hosts, FREE", costs(asked("", "12;13", "e", 0), 1), 2, 2, 2, 2, 0);
    due("cost(2, 0)", x.cost(2, 0), -2);
    due("cost(-1, 0)", x.cost(-1, 0), -2);
    due("cost(0, 5)", x.cost(0, 5), -2);
    due("cost(0, -1)", x.cost(0, -1), -2);
  }

  private static void logs() {
    UnnestPlans x = asked("12;34", "11", "df1e", 0);
    dueAll("log row by row", logOf(x, 0), 0, 5, 7, 1, 11, 17, 15, 10, 0, 5, 7, 1, 11, 17, 15, 10);
    dueAll("log by FREE", logOf(x, 1), 0, 5, 7, 9, 19, 17, 15, 10);
    UnnestPlans y = asked("12;34;56", "11;12", "lmug", 0);
    dueAll("log by FREE", logOf(y, 1), 0, 8, 2, 3, 4, 6, 16, 14, 13, 12, 18, 10);
    // An error ends it all, and what is open is shut all the same.
    UnnestPlans z = asked("12;34;56", "11;31;32", "e", 5);
    dueAll("log row by row, error", logOf(z, 0), 0, 1, 11, 10, 0, 1, 11, 10);
    dueAll("log by FREE, error", logOf(z, 1), 0, 9, 19, 10);
    dueAll("log without hosts", logOf(asked("", "12", "e", 0), 0));
    UnnestPlans full = asked("01;12;23;34;45;56;67;78;89;90", "", "eeeeeeeeeeee", 0);
    due("log, the first 200", logOf(full, 0).length, 200);
    due("log(0, 199)", full.log(0, 199), 11);
    due("cost(0, 2), of more than the log tells", full.cost(0, 2), 130);
    due("log(0, 200)", full.log(0, 200), -2);
    due("log(0, -1)", full.log(0, -1), -2);
    due("log(2, 0)", full.log(2, 0), -2);
    due("log(1, 199)", full.log(1, 199), -1);
  }

  private static void spares() {
    due("spare() of nothing", new UnnestPlans().spare(), 0);
    due("spare(), each alone", asked("12", "11;11;12", "dd", 0).spare(), 3);
    due("spare(), one", asked("12;34", "11;12;35", "edf0", 0).spare(), 6);
    due("spare(), none", asked("12;34", "11;12;35", "ef2", 0).spare(), 0);
    due("spare(), without hosts", asked("", "11;12", "elmg", 0).spare(), 15);
    due("spare(), by the END", asked("12", "11;11;12", "d", 3).spare(), 1);
    due("spare(), by the END", asked("12", "11;11;12", "d", 4).spare(), 0);
    due("spare(), the same error", asked("12;34", "11;12;35", "e", 5).spare(), 1);
    due("spare(), another error", asked("34;12", "11;12;35", "e", 5).spare(), 0);
    due("spare(), an error only with it", asked("12", "34", "u", 5).spare(), 0);
    UnnestPlans x = asked("12;34", "11;12;35", "ed", 0);
    long before = x.digest();
    x.spare();
    changesNothing("spare()", x, before);
  }

  // ---- sheets

  private static void newSheets() {
    UnnestPlans x = new UnnestPlans();
    due("sheet(0, 0, 0)", x.sheet(0, 0, 0), 0);
    due("sheet(3, 2, 60)", x.sheet(3, 2, 60), 60);
    for (int i = 0; i < 60; i++) due("get, at first", x.get(3, 2, i), 0);
    x.put(3, 2, 59, 7);
    due("sheet(3, 2, 61)", x.sheet(3, 2, 61), -2);
    due("sheet(4, 2, 1)", x.sheet(4, 2, 1), -2);
    due("sheet(-1, 2, 1)", x.sheet(-1, 2, 1), -2);
    due("sheet(3, 3, 1)", x.sheet(3, 3, 1), -2);
    due("sheet(3, -1, 1)", x.sheet(3, -1, 1), -2);
    due("sheet(3, 3, -1), bad and SIZE", x.sheet(3, 3, -1), -2);
    due("count(8)", x.count(8), 0);
    due("sheet(3, 1, -1)", x.sheet(3, 1, -1), -15);
    due("count(8)", x.count(8), 5);
    due("sheet, least", x.sheet(3, 1, LEAST_INT), -15);
    due("get, behind refusals", x.get(3, 2, 59), 7);
    due("sheet, anew", x.sheet(3, 2, 60), 60);
    due("get, anew", x.get(3, 2, 59), 0);
    due("count(8) stays", x.count(8), 5);
  }

  private static void losing() {
    UnnestPlans x = new UnnestPlans();
    due("lose(1)", x.lose(1), -11);
    due("count(8)", x.count(8), 1);
    x.sheet(1, 1, 17);
    due("lose(1)", x.lose(1), 17);
    due("lose(1) again", x.lose(1), -11);
    x.sheet(1, 1, 0);
    due("lose(1), empty", x.lose(1), 0);
    x.sheet(2, 0, -1);
    due("lose(4)", x.lose(4), -2);
    due("lose(-1)", x.lose(-1), -2);
    due("count(8) stays", x.count(8), 5);
  }

  private static void putting() {
    UnnestPlans x = new UnnestPlans();
    for (int form = 0; form < 3; form++) {
      x.sheet(form, form, 3);
      int[] values = {0, 1, -1, 127, 128, 255, 256, 32767, 32768, 65535, 65536, LEAST_INT, Integer.MAX_VALUE};
      for (int v : values) {
        due("put", x.put(form, form, 2, v), 1);
        due("get of " + v, x.get(form, form, 2), form == 0 ? (byte) v : form == 1 ? (short) v : v);
      }
    }
    x.put(0, 0, 0, 9);
    due("put(4, 0, 0, 1)", x.put(4, 0, 0, 1), -2);
    due("put(-1, 0, 0, 1)", x.put(-1, 0, 0, 1), -2);
    due("put(0, 3, 0, 1)", x.put(0, 3, 0, 1), -2);
    due("put(0, -1, 0, 1)", x.put(0, -1, 0, 1), -2);
    due("put(3, 3, 0, 1), bad and NULL", x.put(3, 3, 0, 1), -2);
    due("count(8)", x.count(8), 0);
    due("put(3, 0, 9, 1)", x.put(3, 0, 9, 1), -11);
    due("count(8)", x.count(8), 1);
    due("put(0, 1, 9, 1), CAST and INDEX", x.put(0, 1, 9, 1), -13);
    due("count(8)", x.count(8), 3);
    due("put(0, 0, 3, 1)", x.put(0, 0, 3, 1), -12);
    due("count(8)", x.count(8), 2);
    due("put(0, 0, -1, 1)", x.put(0, 0, -1, 1), -12);
    due("get(0, 0, 0)", x.get(0, 0, 0), 9);
  }

  private static void getting() {
    UnnestPlans x = new UnnestPlans();
    x.sheet(0, 1, 2);
    x.put(0, 1, 1, 40000);
    due("get(0, 1, 1)", x.get(0, 1, 1), 40000 - 65536);
    due("get(0, 1, 0)", x.get(0, 1, 0), 0);
    int[][] bad = {{4, 1, 0}, {-1, 1, 0}, {0, 3, 0}, {0, -1, 0}, {1, 3, 0}};
    for (int[] b : bad) due("get, bad", x.get(b[0], b[1], b[2]), LEAST_INT);
    due("count(8)", x.count(8), 0);
    due("get, NULL", x.get(1, 1, 9), LEAST_INT);
    due("count(8)", x.count(8), 1);
    due("get, CAST", x.get(0, 2, 9), LEAST_INT);
    due("count(8)", x.count(8), 3);
    due("get, INDEX", x.get(0, 1, 2), LEAST_INT);
    due("count(8)", x.count(8), 2);
    due("get, CAST", x.get(0, 0, 0), LEAST_INT);
    due("count(8)", x.count(8), 3);
    due("get, INDEX", x.get(0, 1, -1), LEAST_INT);
    due("count(8)", x.count(8), 2);
  }

  private static int[] items(UnnestPlans x, int s, int form, int n) {
    int[] all = new int[n];
    for (int i = 0; i < n; i++) all[i] = x.get(s, form, i);
    return all;
  }

  private static void copying() {
    UnnestPlans x = new UnnestPlans();
    x.sheet(0, 2, 5);
    x.sheet(1, 2, 3);
    x.sheet(2, 1, 5);
    for (int i = 0; i < 5; i++) x.put(0, 2, i, i + 1);
    due("copy(0, 1, 1, 0, 3)", x.copy(0, 1, 1, 0, 3), 1);
    dueAll("copied", items(x, 1, 2, 3), 2, 3, 4);
    due("copy(0, 0, 0, 1, 4)", x.copy(0, 0, 0, 1, 4), 1);
    dueAll("copied up", items(x, 0, 2, 5), 1, 1, 2, 3, 4);
    due("copy(0, 2, 0, 0, 3)", x.copy(0, 2, 0, 0, 3), 1);
    dueAll("copied down", items(x, 0, 2, 5), 2, 3, 4, 3, 4);
    due("copy of none at the ends", x.copy(0, 5, 1, 3, 0), 1);
    due("copy(4, ..)", x.copy(4, 0, 0, 0, 1), -2);
    due("copy(-1, ..)", x.copy(-1, 0, 0, 0, 1), -2);
    due("copy(0, 0, 4, ..)", x.copy(0, 0, 4, 0, 1), -2);
    due("copy(3, 0, -1, ..), bad and NULL", x.copy(3, 0, -1, 0, 1), -2);
    due("count(8)", x.count(8), 0);
    due("copy from a lost one", x.copy(3, 0, 0, 0, 9), -11);
    due("copy to a lost one", x.copy(0, 0, 3, 0, -1), -11);
    due("copy, STORE and INDEX", x.copy(0, 0, 2, 0, -1), -14);
    due("count(8)", x.count(8), 4);
    int most = Integer.MAX_VALUE;
    int[][] ill = {{-1, 0, 1}, {0, -1, 1}, {0, 0, -1}, {3, 0, 3}, {0, 1, 3}, {6, 0, 0}, {0, 4, 0}, {most, 0, 1}, {0, most, 1},
        {1, 1, most}, {most, most, most}, {LEAST_INT, 0, 1}, {0, 0, LEAST_INT}, {0, LEAST_INT, LEAST_INT}};
    for (int[] c : ill) due("copy, INDEX", x.copy(0, c[0], 1, c[1], c[2]), -12);
    due("count(8)", x.count(8), 2);
    dueAll("as before", items(x, 0, 2, 5), 2, 3, 4, 3, 4);
    dueAll("as before", items(x, 1, 2, 3), 2, 3, 4);
  }

  private static void writing() {
    UnnestPlans x = asked("12;34;56", "11;12;35", "e", 0);
    for (int plan = 0; plan < 2; plan++) {
      x.sheet(0, 2, 5);
      x.put(0, 2, 3, 77);
      due("write to a long one", x.write(plan, 0), 3);
      dueAll("written", items(x, 0, 2, 5), 2, 1, 0, 77, 0);
      x.sheet(1, 1, 2);
      due("write to a short one", x.write(plan, 1), 2);
      dueAll("written", items(x, 1, 1, 2), 2, 1);
      x.sheet(1, 0, 0);
      due("write to an empty one", x.write(plan, 1), 0);
    }
    x.end(4);
    x.sheet(2, 0, 3);
    x.sheet(3, 1, 3);
    int bits = Float.floatToIntBits(1.5f);
    due("write, AVERAGE", x.write(0, 2), 3);
    dueAll("lowest bits", items(x, 2, 0, 3), (byte) bits, (byte) Float.floatToIntBits(5f), -1);
    x.wipe(1);
    typeAll(x, 1, "11;11;12");
    due("write, AVERAGE", x.write(1, 3), 3);
    dueAll("lowest bits", items(x, 3, 1, 3), (short) Float.floatToIntBits(4f / 3f), -1, -1);
    due("write(2, 0)", x.write(2, 0), -2);
    due("write(-1, 0)", x.write(-1, 0), -2);
    due("write(0, 4)", x.write(0, 4), -2);
    due("write(0, -1)", x.write(0, -1), -2);
    x.end(5);
    due("count(8)", x.count(8), 0);
    due("write, error", x.write(0, 3), -3);
    due("write, error", x.write(1, 3), -3);
    dueAll("not written", items(x, 3, 1, 3), (short) Float.floatToIntBits(4f / 3f), -1, -1);
    x.lose(3);
    due("write, NULL and error", x.write(0, 3), -11);
    due("count(8)", x.count(8), 1);
  }

  private static void reading() {
    UnnestPlans x = asked("12", "", "", 0);
    x.sheet(0, 0, 3);
    x.put(0, 0, 0, ';');
    x.put(0, 0, 1, '3');
    x.put(0, 0, 2, '-');
    due("read(0, 0)", x.read(0, 0), 3);
    due("count(0)", x.count(0), 2);
    due("row(0, 1, 0)", x.row(0, 1, 0), 3);
    due("row(0, 1, 1)", x.row(0, 1, 1), -1);
    x.sheet(1, 2, 20);
    for (int i = 0; i < 20; i++) x.put(1, 2, i, 'd');
    due("read(2, 1), as many as may", x.read(2, 1), 12);
    due("count(2)", x.count(2), 12);
    due("read(2, 1), full", x.read(2, 1), 0);
    due("count(4)", x.count(4), 17);
    x.sheet(1, 1, 0);
    due("read, empty", x.read(1, 1), 0);
    x.sheet(1, 1, 1);
    x.put(1, 1, 0, 255);
    due("read(1, 1)", x.read(1, 1), 1);
    due("fault(1)", x.fault(1), 0);
    long digest = x.digest();
    due("read(3, 0)", x.read(3, 0), -2);
    due("read(-1, 0)", x.read(-1, 0), -2);
    due("read(0, 4)", x.read(0, 4), -2);
    due("read(0, -1)", x.read(0, -1), -2);
    due("read(3, 3), bad and NULL", x.read(3, 3), -2);
    due("count(8)", x.count(8), 0);
    due("read(0, 3)", x.read(0, 3), -11);
    due("count(8)", x.count(8), 1);
    changesNothing("refused reading", x, digest);
  }

  /** Items 12;34 but for one of them: those ahead of it come, none behind it. */
  private static void readingTillNoByte(int form, int at, int item, int want) {
    UnnestPlans x = new UnnestPlans();
    x.sheet(0, form, 5);
    for (int i = 0; i < 5; i++) x.put(0, form, i, "12;34".charAt(i));
    x.put(0, form, at, item);
    String call = "read of form " + form + ", item " + at + " is " + item;
    due(call, x.read(1, 0), want);
    due(call + ", count(4)", x.count(4), want);
    if (want < 5) due(call + ", count(1)", x.count(1), want == 2 ? 1 : 0);
    due(call + ", count(8)", x.count(8), 0);
    due(call + ", the item stays", x.get(0, form, at), form == 0 ? (byte) item : form == 1 ? (short) item : item);
  }

  private static void readingNoBytes() {
    int[] none = {-1, -128, -32768, 256, 256 + '3', 32767, LEAST_INT, Integer.MAX_VALUE, 65536 + '3'};
    for (int at = 0; at < 5; at++) {
      for (int item : none) {
        readingTillNoByte(2, at, item, at);
        int asShort = (short) item, asByte = (byte) item;
        readingTillNoByte(1, at, item, asShort < 0 || asShort > 255 ? at : 5);
        readingTillNoByte(0, at, item, asByte < 0 ? at : 5);
      }
      // The lowest bits that a byte has of 128 and 255 are below 0.
      for (int item : new int[] {0, 127, 128, 255}) {
        readingTillNoByte(0, at, item, item > 127 ? at : 5);
        readingTillNoByte(1, at, item, 5);
        readingTillNoByte(2, at, item, 5);
      }
    }
  }

  private static void counts() {
    UnnestPlans x = asked("12;34;12", "11;12;35;36", "dle", 7);
    int[] want = {3, 4, 3, 7, 8 + 11 + 3, 2, 5, 12, 0};
    for (int what = 0; what < 9; what++) due("count(" + what + ")", x.count(what), want[what]);
    due("count(9)", x.count(9), -2);
    due("count(-1)", x.count(-1), -2);
    x.type(0, 'x');
    due("count(0), with a fault", x.count(0), 0);
    due("count(4), with a fault", x.count(4), 23);
    due("count(7), with a fault", x.count(7), 0);
    x.lose(0);
    due("count(8), NULL", x.count(8), 1);
    x.sheet(0, 0, -1);
    due("count(8), SIZE", x.count(8), 5);
    x.sheet(0, 0, 1);
    due("count(8) stays", x.count(8), 5);
  }

  /** The digest in the document's own words, by the calls of the face. */
  private static long digestByCalls(UnnestPlans x) {
    long h = 17;
    for (int i = 0; i < 8; i++) h = 31 * h + x.count(i);
    for (int i = 0; i < 3; i++) h = 31 * h + x.fault(i);
    for (int i = 0; i < 10; i++) for (int t = 0; t < 2; t++) for (int w = 0; w < 2; w++) h = 31 * h + x.row(t, i, w);
    for (int i = 0; i < 12; i++) {
      h = 31 * h + x.step(i, 0);
      h = 31 * h + x.step(i, 1);
      h = 31 * h + x.plan(i);
    }
    int[] some = {x.speaks(), x.domain(-1, 0), x.same(), x.total(), x.spare()};
    for (int s : some) h = 31 * h + s;
    for (int p = 0; p < 2; p++) {
      h = answersByCalls(x, p, h);
      for (int w = 0; w < 5; w++) h = 31 * h + x.cost(p, w);
      for (int i = 0; i < 60; i++) h = 31 * h + x.log(p, i);
    }
    for (int i = 0; i < 10; i++) for (int w = 0; w < 2; w++) h = 31 * h + x.domain(i, w);
    int end = x.count(3);
    for (int kind = 0; kind < 9; kind++) {
      x.end(kind);
      for (int p = 0; p < 2; p++) h = answersByCalls(x, p, h);
    }
    x.end(end);
    return h;
  }

  private static long answersByCalls(UnnestPlans x, int plan, long start) {
    long h = 31 * start + x.error(plan);
    for (int host = 0; host < x.count(0); host++) h = 31 * h + x.answer(plan, host);
    return h;
  }

  private static void digests() {
    String[][] questions = {{"", "", ""}, {"12;34;12;-1", "11;12;35;36", "e"}, {"12;34", "33;33", "eud"}, {"12;3", "34", "f"},
        {"12;34;12;-1", "11;12;35;36", "f1dgu"}};
    for (String[] q : questions) for (int end = 0; end < 9; end++) {
      UnnestPlans x = asked(q[0], q[1], q[2], end);
      long want = digestByCalls(x);
      due("digest()", x.digest(), want);
      due("digest() again", x.digest(), want);
      due("count(3) behind digest()", x.count(3), end);
      x.lose(0);
      x.sheet(0, 0, 4);
      due("digest(), which tells nothing of sheets and findings", x.digest(), want);
    }
  }

  public static void main(String[] args) {
    promise = 1; newObject();
    promise = 2; typing();
    promise = 3; wiping();
    promise = 4; undoing();
    promise = 5; faults();
    promise = 6; rows();
    promise = 7; steps();
    promise = 8; ends();
    promise = 9; errors();
    promise = 10; answersOfSteps(); answersOfEnds();
    promise = 11; sames();
    promise = 12; totals();
    promise = 13; speaking();
    promise = 14; domains();
    promise = 15; plansOpened();
    promise = 16; costsTold();
    promise = 17; logs();
    promise = 18; spares();
    promise = 19; newSheets();
    promise = 20; losing();
    promise = 21; putting();
    promise = 22; getting();
    promise = 23; copying();
    promise = 24; writing();
    promise = 25; reading(); readingNoBytes();
    promise = 26; counts();
    promise = 27; digests();
    System.out.println(wrong == 0 ? "promises 1 to 27: all answers are as due" : wrong + " answers are not as due");
    if (wrong != 0) System.exit(1);
  }
}
