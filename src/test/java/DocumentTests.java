/**
 * The document from its first line on: the sentences that name no boundary, which those tests leave
 * (TermsBoundaryTests, PromiseBoundaryTests have the others), and what calls tell together.
 */
public final class DocumentTests extends Sentences {
  /** Each step once, the longest text of them, and one that speaks of the HOST at each place. */
  private static final String[] STEPS = {"", "e", "l", "m", "u", "d", "g", "f3", "de", "dl", "gm", "f3u", "elmudgf1", "uuuuuuuuuuuu", "dddddddddddu"};

  // ---- what it is

  private static void noHostIsAskedFor() {
    for (int hosts = 1; hosts <= 10; hosts++) for (String steps : STEPS) {
      Asked x = asked(rows(hosts, "12"), "12;13;35;-1", steps, COUNT);
      x.due(4 * hosts, "cost", 0, 0).due(4, "cost", 1, 0).due(hosts * (x.call("count", 2) + 1), "cost", 0, 2);
      x.due(x.call("count", 6), "cost", 1, 2);
    }
  }

  private static void joinedWhereFirstSpokenOf() {
    asked("12", "", "df1gl", COUNT).duePlan(0, 5, 7, 6, 8, 2);
    asked("12", "", "df1ge", COUNT).duePlan(0, 5, 7, 6, 9);
    asked("12", "", "mdf1g", COUNT).duePlan(0, 8, 3, 5, 7, 6);
    asked("12", "", "uee", COUNT).duePlan(0, 8, 4, 1, 1);
    asked("12", "", "df1g", IN).duePlan(0, 5, 7, 6, 8);
    asked("12", "", "df1g", COUNT).duePlan(0, 5, 7, 6);
  }

  private static void emptyGroups() {
    int[] ofNone = {0, NONE, NONE, NONE, NONE, NONE, 0, 0, 1};
    int[] ofOne = {1, 5, 5, 5, bits(5f), 5, 1, 1, 0};
    for (int end = 0; end < 9; end++) for (String steps : new String[] {"e", "ed", "def0", "dme"}) {
      String inner = steps.equals("dme") ? "14" : "15";
      dueAnswers("15;25;-5", inner, steps, end, ofOne[end], ofNone[end], ofNone[end]);
    }
  }

  private static void threeTruths() {
    // The V of rows: one that is the HOST's, another one, a MISSING one, each there or not.
    int[] in = {0, 1, 0, 1, NONE, 1, NONE, 1}, ofMissing = {0, NONE, NONE, NONE, NONE, NONE, NONE, NONE};
    for (int which = 0; which < 8; which++) {
      String inner = ((which & 1) > 0 ? ";15" : "") + ((which & 2) > 0 ? ";16" : "") + ((which & 4) > 0 ? ";1-" : "");
      inner = inner.isEmpty() ? "" : inner.substring(1);
      int not = in[which] == NONE ? NONE : 1 - in[which], notMissing = ofMissing[which] == NONE ? NONE : 1;
      dueAnswers("15;1-", inner, "", IN, in[which], ofMissing[which]);
      dueAnswers("15;1-", inner, "", NOT_IN, not, notMissing);
      dueAnswers("15;1-", inner, "e", IN, in[which], ofMissing[which]);
      dueAnswers("15;1-", inner, "e", NOT_IN, not, notMissing);
    }
  }

  private static void sameErrors() {
    String[] inners = {"11;12", "21;22;31", "21;31;32", "-1;-2", "31"};
    int[] errors = {0, 1, 2, NONE, NONE};
    for (int i = 0; i < inners.length; i++) {
      asked("15;25;35", inners[i], "e", ONLY).due(errors[i], "error", 0).due(errors[i], "error", 1).due(1, "same");
    }
  }

  /** Each opening stands in the log with its shutting, those between them too. */
  private static void dueNested(Asked x, int plan) {
    int[] open = new int[20];
    int n = 0, opened = 0;
    for (int i = 0; i < 200; i++) {
      int code = (int) x.call("log", plan, i);
      if (code == NONE) break;
      if (code < 10) {
        open[n++] = code;
        opened++;
      } else if (n == 0 || open[--n] != code - 10) {
        wrong("the log of plan " + plan + " shuts " + (code - 10) + " at " + i + ", which is not the last one that is open");
        return;
      }
    }
    due("what is open behind the log", n, 0);
    x.due(opened, "cost", plan, 2).due(0, "cost", plan, 4);
  }

  private static void shutInTheOtherOrder() {
    for (String steps : STEPS) for (int end : new int[] {COUNT, ONLY, EXISTS, IN}) for (String inner : new String[] {"", "12;13;35"}) {
      if (steps.length() > 9) continue;
      for (int plan = 0; plan < 2; plan++) dueNested(asked("52;12;34", inner, steps, end), plan);
    }
  }

  private static void readsHandsOnOpens() {
    // By EQUAL two rows stay for the first host and one for the second one; FILTER leaves one of them for each.
    Asked x = asked("12;34", "13;18;39", "ef5", COUNT).dueCosts(0, 6, 6 + 3 + 2).dueCosts(1, 3, 3 + 3 + 2);
    x.due(6, "cost", 0, 2).due(3, "cost", 1, 2).due(0, "spare");
    asked("12;34", "18;18;39", "df5", SUM).due(2, "spare");
    asked("12;34", "18;18;39", "df5", GREATEST).due(3, "spare");
  }

  private static void longestUse() {
    int typed = 29 + 29 + 12 + 1;
    Asked x = asked(TEN, "99;8-;-7;96;95;84;93;92;91;90", "udmgudmlemuf", IN).due(12, "fault", 2).due(11, "undo", 2).due(12, "type", 2, 'g');
    long first = x.call("digest"), other = asked(TEN, "99;8-;-7;96;95;84;93;92;91;90", "udmgudmlemug", IN).call("digest");
    due("digest() of an object made alike", other, first);
    for (int call = typed + 4; call < MOST_CALLS; call++) x.due(first, "digest");
    // Each call may be the last one of 512.
    Asked y = new Asked();
    for (int call = 1; call < MOST_CALLS; call += 2) y.due(1, "type", 0, '1').due(0, "undo", 0);
    Asked z = new Asked();
    for (int call = 1; call < MOST_CALLS; call += 2) z.due(60, "sheet", 3, call % 3, 60).due(60, "lose", 3);
  }

  private static void whatItIs() {
    it("answered row by row, and by a plan in which no row of the other one is asked for any more", DocumentTests::noHostIsAskedFor);
    it("the values that are needed of it come together once, are joined where they are first spoken of", DocumentTests::joinedWhereFirstSpokenOf);
    it("with empty groups told as they are row by row", DocumentTests::emptyGroups);
    it("missing values by three truths", DocumentTests::threeTruths);
    it("the same errors where one value is wanted and there are more", DocumentTests::sameErrors);
    it("what stands open is shut again in the other order, whatever was thrown", DocumentTests::shutInTheOtherOrder);
    it("what each plan reads, hands on, opens; which step might as well not be", DocumentTests::readsHandsOnOpens);
    it("An object is used for at most 512 calls after it has been made", DocumentTests::longestUse);
  }

  private static void it(String words, Runnable test) {
    sentence("What it is", words, test);
  }

  // ---- terms

  private static void twoTexts() {
    Asked x = asked("12;34", "56", "", COUNT).due(2, "count", 0).due(1, "count", 1);
    x.due(1, "row", 0, 0, 0).due(2, "row", 0, 0, 1).due(3, "row", 0, 1, 0).due(4, "row", 0, 1, 1).due(5, "row", 1, 0, 0).due(6, "row", 1, 0, 1);
    asked("56", "12;34", "", COUNT).due(1, "count", 0).due(2, "count", 1).dueAnswers(0, 2).dueAnswers(1, 2);
  }

  private static void eachStep() {
    // One table in which each step leaves another SUM for the first host, and another one for the second one.
    String inner = "14;14;35;-7;5-";
    dueAnswers("32;63", inner, "", SUM, 20, 20);
    dueAnswers("32;63", inner, "e", SUM, 5, NONE);
    dueAnswers("32;63", inner, "l", SUM, 8, 13);
    dueAnswers("32;63", inner, "m", SUM, 20 + 4 * 3, 20 + 4 * 6);
    dueAnswers("32;63", inner, "u", SUM, 22, 23);
    dueAnswers("32;63", inner, "d", SUM, 16, 16);
    dueAnswers("32;63", inner, "g", SUM, 5, 5);
    dueAnswers("32;63", inner, "f5", SUM, 12, 12);
    Asked x = new Asked().type(2, "elmudgf5");
    for (int i = 0; i < 7; i++) x.due(i + 1, "step", i, 0).due(i == 6 ? 5 : NONE, "step", i, 1);
  }

  private static void eachEnd() {
    // K 1 has three rows, K 2 one, K 3 none; the V of the hosts are 4, 4 and 4.
    int[][] want = {{3, 1, 0}, {10, 4, NONE}, {4, 4, NONE}, {6, 4, NONE}, {bits(5f), bits(4f), NONE}, {}, {1, 1, 0}, {1, 1, 0}, {0, 0, 1}};
    for (int end = 0; end < 9; end++) {
      Asked x = asked("14;24;34", "14;1-;16;24", "e", end).due(end, "count", 3).due(end == ONLY ? 0 : NONE, "error", 0).due(end == ONLY ? 0 : NONE, "error", 1);
      if (end != ONLY) x.dueAnswers(0, want[end]).dueAnswers(1, want[end]);
    }
    dueAnswers("24;34", "14;1-;16;24", "e", ONLY, 4, NONE);
  }

  private static void oneBehindAnother() {
    dueAnswers("12", "13;13;15", "gf2", COUNT, 1);
    dueAnswers("12", "13;13;15", "f5g", SUM, 1);
    dueAnswers("32", "13;14", "gm", SUM, 2 + 3);
    dueAnswers("32", "13;14", "mg", SUM, 2);
    dueAnswers("13", "13;13", "ud", COUNT, 1);
    dueAnswers("13", "13;13", "du", COUNT, 2);
    dueAnswers("32", "14;35", "ul", SUM, 4);
    dueAnswers("32", "14;35", "lu", SUM, 4 + 2);
    dueAnswers("32", "14;35", "ue", SUM, 5 + 2);
    dueAnswers("32", "14;35", "mf8", SUM, 8);
    dueAnswers("32", "14;35", "f5m", SUM, 8);
    dueAnswers("22", "14;35", "mf7", SUM, 7);
    dueAnswers("22", "14;35", "f7m", SUM, NONE);
    // All seven: EQUAL leaves 4, 4 and 6, MORE makes them 5, 5, 7, UNION adds 9, FILTER takes 5 away, then alike ones and groups.
    dueAnswers("19", "14;14;16;24", "emuf6dg", SUM, 2);
    dueAnswers("19", "14;14;16;24", "emuf6d", SUM, 16);
    dueAnswers("19", "14;14;16;24", "emudf5", SUM, 21);
    dueAnswers("19", "14;14;16;24", "emu", SUM, 26);
    dueAnswers("29", "14;14;16;24", "lmudg", GREATEST, 2);
  }

  private static void withoutHosts() {
    // Hosts with the same pair change nothing of what FREE does; of a new pair it does.
    for (String steps : new String[] {"e", "l", "m", "elm", "gm"}) {
      Asked one = asked("12", "13;14;05", steps, SUM), many = asked("12;13;1-;12", "13;14;05", steps, SUM), other = asked("12;02", "13;14;05", steps, SUM);
      for (int what = 0; what < 5; what++) many.due(one.call("cost", 1, what), "cost", 1, what);
      for (int i = 0; i < 60; i++) many.due(one.call("log", 1, i), "log", 1, i);
      for (int host = 0; host < 4; host++) many.due(one.call("answer", 1, 0), "answer", 1, host);
      many.due(1, "domain", NONE, 0);
      other.due(2, "domain", NONE, 0).due(one.call("cost", 1, 0), "cost", 1, 0);
    }
  }

  private static void logOfEach() {
    for (int code = 1; code <= 7; code++) {
      String step = new String[] {"e", "l", "m", "u", "d", "g", "f0"}[code - 1];
      asked("12", "", step, COUNT).dueLog(0, 0, code, 10 + code, 10);
      if (code == 1) asked("12", "", step, COUNT).dueLog(1, 0, 9, 19, 10);
      else if (code <= 4) asked("12", "", step, COUNT).dueLog(1, 0, 8, code, 10 + code, 18, 10);
      else asked("12", "", step, COUNT).dueLog(1, 0, code, 10 + code, 10);
    }
    asked("12;34", "", "f0", IN).dueLog(0, 0, 7, 17, 10, 0, 7, 17, 10).dueLog(1, 0, 7, 8, 18, 17, 10);
  }

  private static void terms() {
    sentence("Terms", "OUTER and INNER are texts", DocumentTests::twoTexts);
    sentence("Terms", "in order: e (EQUAL), l (LESS), m (MORE), u (UNION), d (DISTINCT), g (GROUP) or f and a figure 0 to 9 (FILTER)", DocumentTests::eachStep);
    sentence("Terms", "END is 0 COUNT (at first), 1 SUM, 2 LEAST, 3 GREATEST, 4 AVERAGE, 5 ONLY, 6 EXISTS, 7 IN, 8 NOT IN", DocumentTests::eachEnd);
    sentence("Terms", "For a ROW of OUTER, its HOST, STEPS are done with all ROWS of INNER, in order, one behind another", DocumentTests::oneBehindAnother);
    sentence("Terms", "FREE is the plan without HOSTS", DocumentTests::withoutHosts);
    sentence("Terms", "OPEN is told in a LOG: 0 INNER, 1 to 7 EQUAL, LESS, MORE, UNION, DISTINCT, GROUP, FILTER", DocumentTests::logOfEach);
  }

  // ---- promises together

  private static long h;

  private static void mix(int times, int... each) {
    for (int n = 0; n < times; n++) for (int x : each) h = 31 * h + x;
  }

  private static void digestByHand() {
    h = 17;
    mix(1, 0, 0, 0, 0, 0, 0, 1, 0);
    mix(3, NONE);
    mix(10, BAD, BAD, BAD, BAD);
    mix(1, BAD, BAD, 0);
    mix(11, BAD, BAD, NONE);
    mix(1, 0, 0, 1, 0, 0);
    mix(1, NONE, 0, 0, 0, 0, 0);
    mix(60, NONE);
    mix(1, NONE, 0, 0, 1, 1, 0, 0, 10);
    mix(58, NONE);
    mix(10, NOT, NOT);
    mix(9, NONE, NONE);
    new Asked().due(h, "digest");
    // OUTER 12, INNER 13;14, STEPS e, END SUM.
    h = 17;
    mix(1, 1, 2, 1, 1, 8, 1, 2, 2);
    mix(3, NONE);
    mix(1, 1, 2, 1, 3);
    mix(1, BAD, BAD, 1, 4);
    mix(8, BAD, BAD, BAD, BAD);
    mix(1, 1, NONE, 0);
    mix(1, BAD, BAD, 9);
    mix(10, BAD, BAD, NONE);
    mix(1, 1, 1, 1, 7, 1);
    for (int plan = 0; plan < 2; plan++) {
      mix(1, NONE, 7, 2, 4, 2, 2, 0, 0, plan == 0 ? 1 : 9, plan == 0 ? 11 : 19, 10);
      mix(56, NONE);
    }
    mix(1, 1, NONE);
    mix(9, NOT, NOT);
    int[] answers = {2, 7, 3, 4, bits(3.5f), NOT, 1, 0, 1};
    for (int end = 0; end < 9; end++) mix(2, end == ONLY ? 0 : NONE, answers[end]);
    asked("12", "13;14", "e", SUM).due(h, "digest");
  }

  private static void answersBecomeAText() {
    for (int form = 0; form < 3; form++) {
      // 49 and 56 are the bytes 1 and 8: the answers are the text of a new INNER.
      Asked x = asked("00;10", rows(7, "07"), "m", SUM).dueAnswers(0, 49, 56).sheet(1, form, 0, 0, 0).due(2, "write", 1, 1).dueItems(1, form, '1', '8', 0);
      x.sheet(2, form, 0, 0).due(1, "copy", 1, 0, 2, 0, 2).due(20, "wipe", 1).dueAnswers(1, NONE, NONE).due(2, "read", 1, 2);
      x.due(1, "count", 1).due(1, "row", 1, 0, 0).due(8, "row", 1, 0, 1).dueAnswers(0, 8, 9).dueAnswers(1, 8, 9);
      x.due(2, "read", 1, 2).due(2, "fault", 1).due(0, "count", 1).dueAnswers(0, NONE, NONE);
      // NONE is no byte, so nothing more comes of it.
      x.due(2, "write", 0, 2).dueItems(2, form, NONE, NONE).due(0, "read", 1, 2).due(2 + 2 + 5 + 1, "count", 4);
      x.due(3, "undo", 1).due(2, "undo", 1).due(NONE, "fault", 1).dueAnswers(0, 8, 9).due(0, "count", 8);
    }
  }

  private static void everyChangeShows() {
    Asked x = asked("12;34", "13;14;35", "e", SUM).dueAnswers(0, 7, 5).dueAnswers(1, 7, 5).due(12, "total");
    x.due(9, "type", 1, ';').due(9, "fault", 1).dueAnswers(0, NONE, NONE).dueAnswers(1, NONE, NONE).due(0, "total");
    x.due(10, "type", 1, '1').due(11, "type", 1, '9').dueAnswers(0, 16, 5).dueAnswers(1, 16, 5).due(21, "total").due(8, "cost", 0, 0);
    x.due(2, "type", 2, 'f').dueAnswers(0, 21, 21).due(3, "type", 2, '5').dueAnswers(0, 9, 5).due(2, "count", 2).due(7, "step", 1, 0);
    x.due(SUM, "end", COUNT).dueAnswers(0, 1, 1).dueAnswers(1, 1, 1).due(COUNT, "end", ONLY).dueAnswers(1, 9, 5);
    x.due(4, "type", 2, 'u').due(0, "error", 0).due(0, "error", 1).due(NOT, "answer", 0, 1).due(2, "domain", NONE, 0).due(4, "domain", 1, 1);
    x.due(3, "undo", 2).due(NONE, "error", 0).due(2, "domain", NONE, 0).due(NONE, "domain", 1, 1).due(3, "wipe", 2).due(0, "domain", NONE, 0);
    x.due(0, "error", 0).due(0, "error", 1).due(5, "wipe", 0).due(NONE, "error", 0).due(NONE, "error", 1).due(0, "count", 7);
  }

  private static void promises() {
    sentence("Promise 27", "h is 17; h becomes 31 h and each of", DocumentTests::digestByHand);
    sentence("Promises 24, 25", "ANSWERS of a plan come to a SHEET; its items come behind a text", DocumentTests::answersBecomeAText);
    sentence("Promises 2 to 18", "what one call changes, the others tell", DocumentTests::everyChangeShows);
  }

  public static void main(String[] args) {
    whatItIs();
    terms();
    promises();
    finish();
  }
}
