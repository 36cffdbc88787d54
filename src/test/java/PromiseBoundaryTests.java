import java.math.BigInteger;
import java.util.function.Supplier;

/** The boundary cases that each promise names: a test for each sentence. */
public final class PromiseBoundaryTests extends Sentences {
  private static void promise(int number, String words, Runnable test) {
    sentence("Promise " + number, words, test);
  }

  // ---- texts

  private static void newObject() {
    promise(1, "No texts", () -> {
      Asked x = new Asked().due(0, "count", 4).due(0, "count", 0).due(0, "count", 1).due(0, "count", 2);
      for (int text = 0; text < 3; text++) x.due(NONE, "fault", text).due(NOT, "undo", text).due(0, "wipe", text);
      x.due(BAD, "row", 0, 0, 0).due(BAD, "row", 1, 0, 0).due(BAD, "step", 0, 0).due(BAD, "answer", 0, 0).due(BAD, "answer", 1, 0);
      x.due(NONE, "error", 0).due(NONE, "error", 1).due(1, "same").due(0, "total").due(0, "speaks").due(0, "spare");
      x.dueDomain().duePlan(0).dueLog(0).dueLog(1, 0, 10).dueCosts(0, 0, 0).dueCosts(1, 0, 0).due(0, "count", 8);
    });
    promise(1, "END COUNT", () -> new Asked().due(COUNT, "count", 3).due(COUNT, "end", COUNT));
    promise(1, "all SHEETS are LOST", () -> {
      for (int s = 0; s < 4; s++) {
        new Asked().due(NULL, "lose", s);
        new Asked().due(NULL, "put", s, 0, 0, 0);
        new Asked().due(NULL, "read", 0, s);
      }
    });
  }

  private static void type() {
    promise(2, "A byte (0 to 255) comes behind a text (0 to 2): how many", () -> {
      for (int text = 0; text < 3; text++) {
        new Asked().due(1, "type", text, 0).due(2, "type", text, 255).due(3, "type", text, 0).due(3, "count", 4).due(0, "fault", text);
        // It comes to that text alone, behind what it has.
        Asked x = asked("12", "34", "e", COUNT).due(text == 2 ? 2 : 3, "type", text, text == 2 ? 'd' : ';');
        for (int other = 0; other < 3; other++) x.due((other == 2 ? 1 : 2) + (other == text ? 1 : 0), "wipe", other);
      }
      asked("1", "3", "f", COUNT).due(2, "type", 0, '2').due(2, "row", 0, 0, 1).due(2, "type", 2, '9').due(9, "step", 0, 1);
    });
    promise(2, "BAD: no such text", () -> {
      badAround(0, 2, 0, "type", 0, '1');
      badAround(0, 2, 0, "type", 0, 0);
    });
    promise(2, "BAD: no byte", () -> {
      for (int text = 0; text < 3; text++) badAround(0, 255, 1, "type", text, 0);
    });
    promise(2, "FULL", () -> {
      for (int text = 0; text < 3; text++) for (int b : new int[] {0, 255, ';', 'e', '1'}) refused(Start.ALL_FULL, FULL, "type", text, b);
      // Bytes with which it cannot go on fill a text as well.
      for (int text = 0; text < 3; text++) {
        Asked x = new Asked().type(text, times(ROOM[text], "x")).due(FULL, "type", text, 'x').due(0, "fault", text);
        x.due(ROOM[text], "count", 4).due(ROOM[text] - 1, "undo", text).due(ROOM[text], "type", text, 0);
      }
    });
  }

  private static void wipe() {
    promise(3, "A text is empty: how many bytes it had", () -> {
      for (int text = 0; text < 3; text++) {
        int had = ROOM[text];
        Asked x = Start.ALL_FULL.get().due(had, "wipe", text).due(0, "wipe", text).due(70 - had, "count", 4);
        x.due(0, "count", text).due(NONE, "fault", text).due(NOT, "undo", text).due(1, "type", text, 'x');
        x.due(0, "fault", text).due(1, "wipe", text);
        Start.FAULTY.get().due(text == 0 ? 3 : 2, "wipe", text).due(NONE, "fault", text);
        new Asked().due(0, "wipe", text);
      }
    });
    promise(3, "BAD", () -> badAround(0, 2, 0, "wipe", 0));
  }

  private static void undo() {
    promise(4, "The last byte of a text is undone: how many are left", () -> {
      for (int text = 0; text < 3; text++) {
        Asked x = Start.ALL_FULL.get();
        for (int left = ROOM[text] - 1; left >= 0; left--) x.due(left, "undo", text);
        x.due(70 - ROOM[text], "count", 4).due(0, "count", text).due(NONE, "fault", text);
      }
      asked("12;", "34", "e", COUNT).due(3, "fault", 0).due(2, "undo", 0).due(NONE, "fault", 0).due(1, "count", 0);
      asked("12;", "34", "ef", COUNT).due(0, "count", 2).due(1, "undo", 2).due(1, "count", 2).due(1, "step", 0, 0);
    });
    promise(4, "BAD", () -> badAround(0, 2, 0, "undo", 0));
    promise(4, "NOT: it is empty", () -> {
      for (int text = 0; text < 3; text++) {
        refused(Start.NEW, NOT, "undo", text);
        refused(Start.NO_TEXTS, NOT, "undo", text);
        int empty = text;
        Supplier<Asked> others = () -> asked(empty == 0 ? "" : "12", empty == 1 ? "" : "12;34", empty == 2 ? "" : "ed", SUM);
        dueAlike("others", others, () -> others.get().due(NOT, "undo", empty), 0, 1, 2, 3, 8);
        new Asked().type(text, "1").due(0, "undo", text).due(NOT, "undo", text).due(NOT, "undo", text).due(1, "type", text, '1');
      }
    });
  }

  private static void fault() {
    promise(5, "The FAULT of a text; NONE", () -> {
      for (int text = 0; text < 3; text++) new Asked().due(NONE, "fault", text).type(text, "x").due(0, "fault", text);
      Start.ALL_FULL.get().due(NONE, "fault", 0).due(NONE, "fault", 1).due(NONE, "fault", 2);
      new Asked().type(0, TEN.substring(0, 28)).due(28, "fault", 0);
      new Asked().type(1, TEN.substring(0, 28) + ";").due(28, "fault", 1);
      new Asked().type(2, times(11, "e") + "f").due(12, "fault", 2);
      new Asked().type(2, times(11, "e") + "x").due(11, "fault", 2);
    });
    promise(5, "BAD", () -> badAround(0, 2, 0, "fault", 0));
  }

  private static void row() {
    promise(6, "K (what = 0), V (1) of a ROW of OUTER (table = 0), INNER (1); NONE: MISSING", () -> {
      Asked x = asked("09;-0", "90;0-;--", "", COUNT);
      x.due(0, "row", 0, 0, 0).due(9, "row", 0, 0, 1).due(NONE, "row", 0, 1, 0).due(0, "row", 0, 1, 1);
      x.due(9, "row", 1, 0, 0).due(0, "row", 1, 0, 1).due(0, "row", 1, 1, 0).due(NONE, "row", 1, 1, 1);
      x.due(NONE, "row", 1, 2, 0).due(NONE, "row", 1, 2, 1);
      new Asked().type(0, TEN).due(9, "row", 0, 9, 0).due(0, "row", 0, 9, 1);
    });
    promise(6, "BAD: no such table", () -> badAround(0, 1, 0, "row", 0, 0, 0));
    promise(6, "BAD: no such ROW", () -> {
      for (int table = 0; table < 2; table++) for (int what = 0; what < 2; what++) {
        badAround(0, 9, 1, "row", table, 0, what);
        refused(Start.NEW, BAD, "row", table, 0, what);
        refused(Start.FAULTY, BAD, "row", table, 0, what);
        refused(Start.ORDINARY, BAD, "row", table, table == 0 ? 4 : 5, what);
        refused(Start.IN_ERROR, BAD, "row", table, 3, what);
      }
      Start.ORDINARY.get().due(1, "row", 0, 3, 0).due(0, "row", 1, 4, 0);
    });
    promise(6, "BAD: no such what", () -> {
      for (int table = 0; table < 2; table++) badAround(0, 1, 2, "row", table, 0, 0);
    });
  }

  private static void step() {
    promise(7, "Which a STEP is (what = 0: 1 to 7 as in the LOG)", () -> {
      Asked x = new Asked().type(2, "elmudgf0f9");
      for (int i = 0; i < 8; i++) x.due(Math.min(i + 1, 7), "step", i, 0);
      new Asked().type(2, times(11, "e") + "g").due(6, "step", 11, 0).due(1, "step", 0, 0);
    });
    promise(7, "the figure of a FILTER (1; NONE: it is no FILTER)", () -> {
      Asked x = new Asked().type(2, "elmudgf0f9");
      for (int i = 0; i < 6; i++) x.due(NONE, "step", i, 1);
      x.due(0, "step", 6, 1).due(9, "step", 7, 1);
      // A figure of an earlier FILTER at the same place is no longer told.
      x.call("wipe", 2);
      x.type(2, "eeeeeeee").due(NONE, "step", 6, 1).due(NONE, "step", 7, 1);
    });
    promise(7, "BAD: no such STEP", () -> {
      for (int what = 0; what < 2; what++) {
        badAround(0, 11, 0, "step", 0, what);
        refused(Start.NEW, BAD, "step", 0, what);
        refused(Start.FAULTY, BAD, "step", 0, what);
        refused(Start.ORDINARY, BAD, "step", 4, what);
        refused(Start.ALL_FULL, BAD, "step", 11, what);
        refused(Start.IN_ERROR, BAD, "step", 1, what);
      }
      Start.ORDINARY.get().due(7, "step", 3, 0).due(1, "step", 3, 1);
    });
    promise(7, "BAD: no such what", () -> badAround(0, 1, 1, "step", 0, 0));
  }

  private static void end() {
    promise(8, "END is 0 to 8: what it was", () -> {
      Asked x = new Asked().due(0, "end", 8).due(8, "count", 3).due(8, "end", 8).due(8, "end", 0).due(0, "count", 3);
      for (int kind = 0; kind < 9; kind++) x.due(Math.max(kind - 1, 0), "end", kind).due(kind, "count", 3);
      asked("10", "13;15", "", LEAST).dueAnswers(0, 3).dueAnswers(1, 3).due(LEAST, "end", GREATEST).dueAnswers(0, 5).dueAnswers(1, 5);
    });
    promise(8, "BAD", () -> badAround(0, 8, 0, "end", 0));
  }

  // ---- answers

  private static void error() {
    promise(9, "The HOST at which there is an ERROR, ROW BY ROW (plan = 0), by FREE (1); NONE", () -> {
      for (int plan = 0; plan < 2; plan++) {
        asked(TEN, "01;02", "e", ONLY).due(0, "error", plan);
        asked(TEN, "91;92", "e", ONLY).due(9, "error", plan);
        asked(TEN, "91", "e", ONLY).due(NONE, "error", plan);
        asked("", "91;92", "", ONLY).due(NONE, "error", plan);
        // Two rows are an ERROR by ONLY alone.
        for (int end = 0; end < 9; end++) asked("91", "91;92", "e", end).due(end == ONLY ? 0 : NONE, "error", plan);
      }
    });
    promise(9, "BAD", () -> badAround(0, 1, 0, "error", 0));
  }

  private static void answer() {
    promise(10, "The ANSWER for a HOST; NONE", () -> {
      for (int plan = 0; plan < 2; plan++) {
        asked(TEN, "01;91", "e", SUM).due(1, "answer", plan, 0).due(1, "answer", plan, 9).due(NONE, "answer", plan, 1);
        asked("10", "10", "e", SUM).due(0, "answer", plan, 0);
        asked("10", "1-", "e", SUM).due(NONE, "answer", plan, 0);
      }
    });
    promise(10, "BAD: no such plan", () -> badAround(0, 1, 0, "answer", 0, 0));
    promise(10, "BAD: no such HOST", () -> {
      for (int plan = 0; plan < 2; plan++) {
        badAround(0, 9, 1, "answer", plan, 0);
        refused(Start.NEW, BAD, "answer", plan, 0);
        refused(Start.FAULTY, BAD, "answer", plan, 0);
        refused(Start.ORDINARY, BAD, "answer", plan, 4);
        refused(Start.IN_ERROR, BAD, "answer", plan, 3);
      }
    });
    promise(10, "NOT: there is an ERROR", () -> {
      for (int plan = 0; plan < 2; plan++) {
        for (int host = 0; host < 3; host++) refused(Start.IN_ERROR, NOT, "answer", plan, host);
        asked(TEN, "91;92", "e", ONLY).due(NOT, "answer", plan, 0).due(NOT, "answer", plan, 9);
      }
    });
  }

  private static void same() {
    promise(11, "Whether both plans tell the same ERROR, or the same ANSWERS: 1, 0", () -> {
      for (Start start : Start.values()) start.get().due(1, "same");
      // Where plans easily part: empty groups, missing values, alike keys, an error of one pair.
      String[] steps = {"", "e", "l", "m", "u", "eg", "ed", "lu", "ug", "gu", "eud", "dgf1e", times(12, "u")};
      for (String s : steps) for (int end = 0; end < 9; end++) {
        asked("12;13;1-;--;-2;52;12", "12;13;1-;--;-2;12", s, end).due(1, "same");
        asked("12;13;1-;--;-2", "", s, end).due(1, "same");
        asked("", "12;13", s, end).due(1, "same");
      }
    });
  }

  private static void total() {
    promise(12, "All ANSWERS that are not NONE together, as ints that wrap", () -> {
      new Asked().due(0, "total");
      asked("12;34;-1", "12;15", "e", SUM).due(7, "total");
      asked("12;34;-1", "5-", "e", SUM).due(0, "total");
      asked("12;34;-1", "10", "e", SUM).due(0, "total");
      asked("12;34;1-", "12;1-", "e", NOT_IN).due(0 + 1, "total");
      asked("12;34;1-", "12;1-", "e", IN).due(1 + 0, "total");
      asked(rows(10, "99"), rows(10, "99"), times(12, "m"), SUM).due(11700, "total");
      asked(rows(10, "99"), rows(10, "99"), "u" + times(11, "m"), SUM).due(11880, "total");
      asked(rows(10, "99"), rows(10, "99"), times(12, "u"), COUNT).due(220, "total");
      asked("", TEN, "", COUNT).due(0, "total");
    });
    promise(12, "of AVERAGE the bits of the floats of all added one after the other, from 0 on", () -> {
      asked("", "12", "", AVERAGE).due(0, "total");
      asked("12", "1-", "e", AVERAGE).due(0, "total");
      asked("12;12", "10", "e", AVERAGE).due(0, "total");
      asked("12;34;-1;22", "12;15;30;30;31;20;20;21", "e", AVERAGE).due(bits(0f + 3.5f + 1f / 3f + 1f / 3f), "total");
      float thirds = 0f;
      for (int i = 0; i < 10; i++) thirds += 1f / 3f;
      asked(rows(10, "12"), "10;10;11", "", AVERAGE).due(bits(thirds), "total");
      // Added in the other order, or without a rounding each time, these floats would come to other bits.
      String inner = "12;20;20;21";
      asked("10;20;20", inner, "e", AVERAGE).due(bits(((0f + 2f) + 1f / 3f) + 1f / 3f), "total");
      asked("20;20;10", inner, "e", AVERAGE).due(bits(((0f + 1f / 3f) + 1f / 3f) + 2f), "total");
      due("another order, other bits", ((0f + 2f) + 1f / 3f) + 1f / 3f == ((0f + 1f / 3f) + 1f / 3f) + 2f ? 1 : 0, 0);
      asked("90;00;10;-0", "90;90;9-", "mm", AVERAGE).due(bits((0f + 18f) + 0f + 2f), "total");
      asked(rows(10, "91"), "99", times(12, "m"), AVERAGE).due(bits(1170f), "total");
    });
    promise(12, "NOT: there is an ERROR", () -> {
      refused(Start.IN_ERROR, NOT, "total");
      asked("12;22", "21;21", "e", ONLY).due(NOT, "total").due(ONLY, "end", SUM).due(2, "total");
    });
  }

  // ---- plans

  private static void speaks() {
    promise(13, "STEPS that speak of the HOST, as bits", () -> {
      new Asked().due(0, "speaks");
      new Asked().type(2, times(12, "e")).due(4095, "speaks");
      new Asked().type(2, times(12, "d")).due(0, "speaks");
      new Asked().type(2, "e" + times(11, "d")).due(1, "speaks");
      new Asked().type(2, times(11, "d") + "u").due(2048, "speaks");
      new Asked().type(2, "f1lf2mgf3e").due(2 + 8 + 64, "speaks");
      new Asked().type(2, times(11, "e") + "f").due(0, "speaks");
    });
    promise(13, "bit 12: END does", () -> {
      for (int end = 0; end < 9; end++) {
        asked("", "", "", end).due(end >= IN ? 4096 : 0, "speaks");
        asked("", "", times(12, "m"), end).due((end >= IN ? 4096 : 0) + 4095, "speaks");
        asked("", "", "ex", end).due(end >= IN ? 4096 : 0, "speaks");
      }
    });
  }

  private static void domain() {
    promise(14, "How many pairs THE DOMAIN has (i = NONE; 0: there is none)", () -> {
      for (int what = 0; what < 2; what++) {
        asked(TEN, "", "u", COUNT).due(10, "domain", NONE, what);
        asked(rows(10, "12"), "", "u", COUNT).due(1, "domain", NONE, what);
        asked(TEN, "", "d", COUNT).due(0, "domain", NONE, what);
        asked("", "", "u", COUNT).due(0, "domain", NONE, what);
        asked("12;", "", "u", COUNT).due(0, "domain", NONE, what);
      }
    });
    promise(14, "K (what = 0), V (1) of the i-th (0 to 9; NONE: MISSING)", () -> {
      Asked x = asked(TEN, "", "u", COUNT).due(0, "domain", 0, 0).due(9, "domain", 0, 1).due(9, "domain", 9, 0).due(0, "domain", 9, 1);
      x.call("end", IN);
      x.due(9, "domain", 9, 0).due(0, "domain", 9, 1);
      asked("-1;2-", "", "u", COUNT).due(NONE, "domain", 0, 0).due(1, "domain", 0, 1).due(2, "domain", 1, 0).due(NONE, "domain", 1, 1);
      asked("21", "", "e", COUNT).due(2, "domain", 0, 0).due(NONE, "domain", 0, 1);
    });
    promise(14, "BAD: no such i", () -> {
      for (int what = 0; what < 2; what++) badAround(NONE, 9, 0, "domain", 0, what);
    });
    promise(14, "BAD: no such what", () -> {
      for (int i : new int[] {NONE, 0, 9}) badAround(0, 1, 1, "domain", i, 0);
    });
    promise(14, "NOT: there is no such pair", () -> {
      for (int what = 0; what < 2; what++) {
        refused(Start.NEW, NOT, "domain", 0, what);
        refused(Start.FAULTY, NOT, "domain", 0, what);
        refused(Start.ORDINARY, NOT, "domain", 3, what);
        refused(Start.IN_ERROR, NOT, "domain", 2, what);
        refused(Start.IN_ERROR, NOT, "domain", 9, what);
        asked("12;34", "", "e", COUNT).due(what == 0 ? 3 : NONE, "domain", 1, what).due(NOT, "domain", 2, what);
        asked(TEN, "", "d", COUNT).due(NOT, "domain", 0, what);
      }
    });
  }

  private static void plan() {
    promise(15, "What FREE OPENS at the i-th place (0 to 19), as in the LOG; NONE", () -> {
      new Asked().due(0, "plan", 0).due(NONE, "plan", 1).due(NONE, "plan", 19);
      asked("", "", times(12, "m"), COUNT).due(0, "plan", 0).due(8, "plan", 1).due(3, "plan", 13).due(NONE, "plan", 14).due(NONE, "plan", 19);
      asked("", "", times(12, "e"), COUNT).due(9, "plan", 1).due(1, "plan", 12).due(NONE, "plan", 13);
      asked("", "", times(12, "d"), IN).due(5, "plan", 12).due(8, "plan", 13).due(NONE, "plan", 14);
      // What an earlier plan opened is no longer told.
      Asked x = asked("", "", times(12, "m"), COUNT).due(3, "plan", 13);
      x.call("wipe", 2);
      x.duePlan(0);
    });
    promise(15, "BAD", () -> badAround(0, 19, 0, "plan", 0));
  }

  private static void cost() {
    promise(16, "READ (what = 0), HANDED ON (1), how often anything is OPENED (2), how many are OPEN at once at most (3), how many are not SHUT at the end (4)", () -> {
      Asked none = asked("", "12", "l", COUNT);
      int[][] ofNone = {{0, 0, 0, 0, 0}, {1, 1, 3, 3, 0}};
      Asked most = asked(TEN, TEN, times(12, "l"), COUNT);
      // Of ten keys 45 are less than one of ten hosts, and they stay through all twelve.
      int[][] ofMost = {{100, 100 + 12 * 45, 130, 13, 0}, {10, 10 + 100 + 12 * 45, 14, 14, 0}};
      Asked error = asked("12;34;56", "33;34;35", "e", ONLY);
      int[][] ofError = {{3 + 2, 3 + 2 + 2, 4, 2, 0}, {3, 3 + 3, 2, 2, 0}};
      for (int plan = 0; plan < 2; plan++) for (int what = 0; what < 5; what++) {
        none.due(ofNone[plan][what], "cost", plan, what);
        most.due(ofMost[plan][what], "cost", plan, what);
        error.due(ofError[plan][what], "cost", plan, what);
      }
      // What an earlier question cost is no longer told.
      for (int text = 0; text < 3; text++) most.call("wipe", text);
      most.type(1, "12").type(2, "l");
      for (int plan = 0; plan < 2; plan++) for (int what = 0; what < 5; what++) most.due(ofNone[plan][what], "cost", plan, what);
    });
    promise(16, "BAD: no such plan", () -> {
      for (int what = 0; what < 5; what += 4) badAround(0, 1, 0, "cost", 0, what);
    });
    promise(16, "BAD: no such what", () -> {
      for (int plan = 0; plan < 2; plan++) badAround(0, 4, 1, "cost", plan, 0);
    });
  }

  private static void log() {
    promise(17, "The i-th of the LOG (0 to 199); NONE", () -> {
      new Asked().due(NONE, "log", 0, 0).due(NONE, "log", 0, 199).due(0, "log", 1, 0).due(10, "log", 1, 1).due(NONE, "log", 1, 2).due(NONE, "log", 1, 199);
      asked(TEN, "", times(9, "d"), COUNT).due(0, "log", 0, 0).due(10, "log", 0, 199).due(NONE, "log", 1, 20).due(NONE, "log", 1, 199);
      asked(TEN, "", times(10, "d"), COUNT).due(5, "log", 0, 199);
      // What an earlier question left in it is no longer told.
      Asked x = asked(TEN, "", times(10, "d"), COUNT).due(5, "log", 0, 199);
      x.call("wipe", 0);
      x.due(NONE, "log", 0, 0).due(NONE, "log", 0, 199);
    });
    promise(17, "BAD: no such plan", () -> {
      for (int i = 0; i < 200; i += 199) badAround(0, 1, 0, "log", 0, i);
    });
    promise(17, "BAD: no such i", () -> {
      for (int plan = 0; plan < 2; plan++) badAround(0, 199, 1, "log", plan, 0);
    });
  }

  private static void spare() {
    promise(18, "SPARE, as bits", () -> {
      new Asked().due(0, "spare");
      new Asked().type(2, "e").due(1, "spare");
      new Asked().type(2, times(12, "e")).due(4095, "spare");
      new Asked().type(2, times(11, "e") + "f").due(0, "spare");
      asked("12", "12;13", times(11, "e") + "d", COUNT).due(4095, "spare");
      asked("12", "12;13;12", times(11, "e") + "d", COUNT).due(2047, "spare");
      asked("12", "12;13;12", "d" + times(11, "e"), COUNT).due(4094, "spare");
      asked("12", "12;13;12", "g", COUNT).due(0, "spare");
    });
  }

  // ---- sheets

  private static void sheet() {
    promise(19, "A SHEET is a new row of a FORM with n items: n", () -> {
      for (int s = 0; s < 4; s++) for (int form = 0; form < 3; form++) {
        Asked x = new Asked().due(0, "sheet", s, form, 0).due(INDEX, "put", s, form, 0, 1).due(60, "sheet", s, form, 60);
        x.due(1, "put", s, form, 59, 9).due(1, "put", s, form, 0, 9).due(60, "sheet", s, form, 60).due(0, "get", s, form, 59).due(0, "get", s, form, 0);
        x.due(1, "put", s, form, 1, 9).due(1, "sheet", s, form, 1).due(INDEX, "put", s, form, 1, 1).due(2, "sheet", s, form, 2).due(0, "get", s, form, 1);
        for (int other = 0; other < 4; other++) x.due(other == s ? 2 : NULL, "lose", other);
      }
    });
    promise(19, "BAD: SHEET", () -> {
      for (int n = 0; n <= 60; n += 60) badAround(0, 3, 0, "sheet", 0, 0, n);
    });
    promise(19, "BAD: FORM", () -> {
      for (int n = 0; n <= 60; n += 60) badAround(0, 2, 1, "sheet", 0, 0, n);
    });
    promise(19, "BAD: above 60", () -> {
      for (int s = 0; s < 4; s++) for (int n : new int[] {61, 62, GREATEST_INT}) bad("sheet", s, s % 3, n);
    });
    promise(19, "SIZE", () -> {
      for (Start start : Start.values()) for (int s = 0; s < 4; s++) {
        refused(start, SIZE, "sheet", s, s % 3, -1);
        refused(start, SIZE, "sheet", s, s % 3, LEAST_INT);
      }
      bad("sheet", 4, 0, -1);
      bad("sheet", 0, 3, -1);
    });
  }

  private static void lose() {
    promise(20, "It is LOST: how many items it had", () -> {
      for (int s = 0; s < 4; s++) {
        new Asked().sheet(s, 2).due(0, "lose", s).due(NULL, "lose", s).due(NULL, "put", s, 2, 0, 1);
        Start.ALL_FULL.get().due(60, "lose", s).due(NULL, "read", 0, s).due(60, "lose", (s + 1) % 4);
        new Asked().sheet(s, 0, 7).due(1, "lose", s).due(1, "sheet", s, 0, 1).due(0, "get", s, 0, 0);
      }
    });
    promise(20, "BAD", () -> badAround(0, 3, 0, "lose", 0));
    promise(20, "NULL", () -> {
      for (int s = 0; s < 4; s++) refused(Start.NEW, NULL, "lose", s);
      refused(Start.ORDINARY, NULL, "lose", 3);
      refused(Start.FAULTY, NULL, "lose", 3);
      refused(Start.IN_ERROR, NULL, "lose", 2);
    });
  }

  private static final int[][] KEPT_AS_BYTE = {
      {0, 0}, {1, 1}, {-1, -1}, {127, 127}, {128, -128}, {129, -127}, {-128, -128}, {-129, 127}, {255, -1}, {256, 0}, {-256, 0}, {-257, -1},
      {32767, -1}, {32768, 0}, {65535, -1}, {65536, 0}, {GREATEST_INT, -1}, {LEAST_INT, 0}, {LEAST_INT + 1, 1}};
  private static final int[][] KEPT_AS_SHORT = {
      {0, 0}, {-1, -1}, {127, 127}, {128, 128}, {-129, -129}, {32767, 32767}, {32768, -32768}, {32769, -32767}, {-32768, -32768}, {-32769, 32767},
      {65535, -1}, {65536, 0}, {-65536, 0}, {-65537, -1}, {GREATEST_INT, -1}, {LEAST_INT, 0}, {LEAST_INT + 1, 1}};

  private static void put() {
    promise(21, "Item i, treated as of a FORM, becomes v (the lowest bits that it has): 1 (bytes)", () -> {
      for (int[] kept : KEPT_AS_BYTE) new Asked().sheet(0, 0, 5, 6, 7).due(1, "put", 0, 0, 1, kept[0]).dueItems(0, 0, 5, kept[1], 7);
    });
    promise(21, "Item i, treated as of a FORM, becomes v (the lowest bits that it has): 1 (shorts)", () -> {
      for (int[] kept : KEPT_AS_SHORT) new Asked().sheet(0, 1, 5, 6, 7).due(1, "put", 0, 1, 1, kept[0]).dueItems(0, 1, 5, kept[1], 7);
    });
    promise(21, "Item i, treated as of a FORM, becomes v (the lowest bits that it has): 1 (ints)", () -> {
      for (int v : new int[] {0, -1, 32768, 65536, LEAST_INT, LEAST_INT + 1, GREATEST_INT}) {
        new Asked().sheet(0, 2, 5, 6, 7).due(1, "put", 0, 2, 1, v).dueItems(0, 2, 5, v, 7).due(0, "count", 8);
      }
    });
    promise(21, "Item i: the first and the last", () -> {
      for (int s = 0; s < 4; s++) {
        Asked x = Start.ALL_FULL.get().due(1, "put", s, s % 3, 0, 1).due(1, "put", s, s % 3, 59, 2);
        x.due(1, "get", s, s % 3, 0).due(0, "get", s, s % 3, 1).due(0, "get", s, s % 3, 58).due(2, "get", s, s % 3, 59);
      }
    });
    promise(21, "BAD: no such SHEET", () -> badAround(0, 3, 0, "put", 0, 0, 0, 1));
    promise(21, "BAD: no such FORM", () -> {
      for (int s = 0; s < 4; s++) badAround(0, 2, 1, "put", s, 0, 0, 1);
    });
    promise(21, "NULL", () -> {
      for (int form = 0; form < 3; form++) {
        refused(Start.ORDINARY, NULL, "put", 3, form, 0, 1);
        refused(Start.ORDINARY, NULL, "put", 3, form, -1, 1);
        refused(Start.NEW, NULL, "put", form, form, 60, 1);
      }
    });
    promise(21, "CAST", () -> {
      for (int s = 0; s < 3; s++) for (int form = 0; form < 3; form++) if (s != form) {
        refused(Start.ORDINARY, CAST, "put", s, form, 0, 1);
        refused(Start.ORDINARY, CAST, "put", s, form, 60, 1);
        refused(Start.ORDINARY, CAST, "put", s, form, -1, 1);
      }
    });
    promise(21, "INDEX", () -> {
      int[] items = {3, 2, 4};
      for (int s = 0; s < 3; s++) for (int i : new int[] {-1, items[s], 59, LEAST_INT, GREATEST_INT}) {
        refused(Start.ORDINARY, INDEX, "put", s, s, i, 1);
      }
      for (int s = 0; s < 3; s++) refused(Start.FAULTY, INDEX, "put", s, s, 0, 1);
      for (int s = 0; s < 4; s++) refused(Start.ALL_FULL, INDEX, "put", s, s % 3, 60, 1);
    });
  }

  private static void get() {
    promise(22, "Item i of it", () -> {
      Start.ORDINARY.get().dueItems(0, 0, '1', -128, 127).dueItems(1, 1, -32768, 32767).dueItems(2, 2, LEAST_INT, 5, -1, GREATEST_INT).due(5, "count", 8);
      Start.ALL_FULL.get().due(52, "get", 3, 0, 59).due(52, "get", 3, 0, 0).due(0, "get", 3, 0, 1).due(51, "get", 2, 2, 59).due(3, "count", 8);
    });
    promise(22, "BAD: the least int (SHEET)", () -> badAround(0, 3, 0, "get", 0, 0, 0));
    promise(22, "BAD: the least int (FORM)", () -> {
      for (int s = 0; s < 4; s++) badAround(0, 2, 1, "get", s, 0, 0);
    });
    promise(22, "so are NULL, CAST, INDEX (count() 8 tells): NULL", () -> {
      for (int form = 0; form < 3; form++) {
        refused(Start.ORDINARY, LEAST_INT, 1, "get", 3, form, 0);
        refused(Start.ORDINARY, LEAST_INT, 1, "get", 3, form, 60);
        refused(Start.NEW, LEAST_INT, 1, "get", form, form, 0);
      }
    });
    promise(22, "so are NULL, CAST, INDEX (count() 8 tells): CAST", () -> {
      for (int s = 0; s < 3; s++) for (int form = 0; form < 3; form++) if (s != form) {
        refused(Start.ORDINARY, LEAST_INT, 3, "get", s, form, 0);
        refused(Start.ORDINARY, LEAST_INT, 3, "get", s, form, 60);
        refused(Start.FAULTY, LEAST_INT, 3, "get", s, form, 0);
      }
    });
    promise(22, "so are NULL, CAST, INDEX (count() 8 tells): INDEX", () -> {
      int[] items = {3, 2, 4};
      for (int s = 0; s < 3; s++) for (int i : new int[] {-1, items[s], 59, LEAST_INT, GREATEST_INT}) {
        refused(Start.ORDINARY, LEAST_INT, 2, "get", s, s, i);
      }
      for (int s = 0; s < 3; s++) refused(Start.FAULTY, LEAST_INT, 2, "get", s, s, 0);
      for (int s = 0; s < 4; s++) refused(Start.ALL_FULL, LEAST_INT, 2, "get", s, s % 3, 60);
    });
  }

  private static int[] upTo(int n) {
    int[] all = new int[n];
    for (int i = 0; i < n; i++) all[i] = i + 1;
    return all;
  }

  private static void copyItself(int form, int i, int j, int n) {
    int[] want = upTo(9);
    System.arraycopy(upTo(9), i, want, j, n);
    new Asked().sheet(1, form, upTo(9)).due(1, "copy", 1, i, 1, j, n).dueItems(1, form, want);
  }

  private static void copy() {
    promise(23, "n items of SHEET s, from i on, come to SHEET t, from j on: 1", () -> {
      for (int form = 0; form < 3; form++) {
        new Asked().sheet(0, form, 1, 2, 3, 4).sheet(3, form, 7, 8, 9).due(1, "copy", 0, 1, 3, 0, 3).dueItems(3, form, 2, 3, 4).dueItems(0, form, 1, 2, 3, 4);
        new Asked().sheet(0, form, 1, 2, 3, 4).sheet(3, form, 7, 8, 9).due(1, "copy", 3, 2, 0, 3, 1).dueItems(0, form, 1, 2, 3, 9).dueItems(3, form, 7, 8, 9);
      }
      new Asked().sheet(0, 2, upTo(60)).sheet(1, 2, new int[60]).due(1, "copy", 0, 0, 1, 0, 60).dueItems(1, 2, upTo(60));
      // No items, from the first place, from the end, and of rows that have none.
      new Asked().sheet(0, 2, 1, 2).sheet(1, 2, 3).due(1, "copy", 0, 0, 1, 0, 0).due(1, "copy", 0, 2, 1, 1, 0).dueItems(1, 2, 3).due(0, "count", 8);
      new Asked().sheet(0, 2).sheet(1, 2).due(1, "copy", 0, 0, 1, 0, 0).due(1, "copy", 0, 0, 0, 0, 0).due(0, "count", 8);
    });
    promise(23, "perhaps s, as they were", () -> {
      for (int form = 0; form < 3; form++) {
        for (int i = 0; i <= 9; i++) for (int j = 0; j <= 9; j++) for (int n : new int[] {0, 1, 4, 9 - Math.max(i, j)}) {
          if (n <= 9 - Math.max(i, j)) copyItself(form, i, j, n);
        }
      }
    });
    promise(23, "BAD: the SHEETS", () -> {
      badAround(0, 3, 0, "copy", 0, 0, 0, 0, 0);
      badAround(0, 3, 2, "copy", 0, 0, 0, 0, 0);
      badAround(0, 3, 2, "copy", 3, -1, 0, -1, -1);
    });
    promise(23, "NULL: s, t", () -> {
      refused(Start.ORDINARY, NULL, "copy", 3, 0, 0, 0, 1);
      refused(Start.ORDINARY, NULL, "copy", 0, 0, 3, 0, 1);
      refused(Start.ORDINARY, NULL, "copy", 3, 0, 3, 0, 0);
      refused(Start.ORDINARY, NULL, "copy", 0, -1, 3, 60, -1);
      refused(Start.NEW, NULL, "copy", 0, 0, 1, 0, 0);
    });
    promise(23, "STORE", () -> {
      for (int s = 0; s < 3; s++) for (int t = 0; t < 3; t++) if (s != t) {
        refused(Start.ORDINARY, STORE, "copy", s, 0, t, 0, 1);
        refused(Start.ORDINARY, STORE, "copy", s, 0, t, 0, 0);
        refused(Start.ORDINARY, STORE, "copy", s, -1, t, 60, -1);
      }
    });
    promise(23, "INDEX: below 0", () -> {
      for (int n : new int[] {-1, LEAST_INT}) {
        refused(Start.IN_ERROR, INDEX, "copy", 0, n, 1, 0, 1);
        refused(Start.IN_ERROR, INDEX, "copy", 0, 0, 1, n, 1);
        refused(Start.IN_ERROR, INDEX, "copy", 0, 0, 1, 0, n);
        refused(Start.IN_ERROR, INDEX, "copy", 0, n, 1, 0, 0);
        refused(Start.IN_ERROR, INDEX, "copy", 0, 0, 1, n, 0);
        refused(Start.IN_ERROR, INDEX, "copy", 0, n, 0, n, n);
        refused(Start.FAULTY, INDEX, "copy", 2, 0, 2, 0, n);
      }
    });
    promise(23, "INDEX: not so many", () -> {
      for (int i = 0; i <= 6; i++) {
        // Five items are there: one more than those behind i, of the one and of the other.
        refused(Start.IN_ERROR, INDEX, "copy", 0, i, 1, 0, 6 - i);
        refused(Start.IN_ERROR, INDEX, "copy", 0, 0, 1, i, 6 - i);
        refused(Start.IN_ERROR, INDEX, "copy", 0, i, 0, i, 6 - i);
      }
      int[] most = {GREATEST_INT, GREATEST_INT - 1};
      for (int n : most) {
        refused(Start.IN_ERROR, INDEX, "copy", 0, n, 1, 0, 1);
        refused(Start.IN_ERROR, INDEX, "copy", 0, 0, 1, n, 1);
        refused(Start.IN_ERROR, INDEX, "copy", 0, 1, 1, 1, n);
        refused(Start.IN_ERROR, INDEX, "copy", 0, n, 1, n, n);
        refused(Start.IN_ERROR, INDEX, "copy", 0, n, 1, 0, 0);
      }
      refused(Start.ALL_FULL, INDEX, "copy", 0, 0, 3, 0, 61);
      refused(Start.ALL_FULL, INDEX, "copy", 0, 1, 3, 0, 60);
      refused(Start.ALL_FULL, INDEX, "copy", 0, 0, 3, 1, 60);
      new Asked().sheet(0, 2, upTo(5)).sheet(1, 2, upTo(4)).due(INDEX, "copy", 0, 0, 1, 0, 5).due(INDEX, "copy", 1, 0, 0, 0, 5).due(1, "copy", 0, 0, 1, 0, 4);
    });
  }

  /** The one host's answer, and what a sheet of a form keeps of it; the item behind it stays. */
  private static void dueWritten(int form, int end, String outer, String inner, String steps, int answer, int kept) {
    for (int plan = 0; plan < 2; plan++) {
      Asked x = asked(outer, inner, steps, end).due(answer, "answer", plan, 0);
      x.sheet(0, form, 5, 5).due(1, "write", plan, 0).dueItems(0, form, kept, 5);
    }
  }

  /** Ten rows whose V come to a sum, to which each MORE of a K adds ten times that K. */
  private static String tenWithSum(int sum) {
    StringBuilder b = new StringBuilder();
    int left = sum;
    for (int i = 0; i < 10; i++) {
      int v = Math.min(left, 9);
      left -= v;
      b.append(i > 0 ? ";" : "").append("0").append(v);
    }
    return b.toString();
  }

  private static void write() {
    promise(24, "ANSWERS of a plan (the lowest bits that it has) come to a SHEET from item 0 on (bytes)", () -> {
      dueWritten(0, SUM, "90", tenWithSum(37), "m", 127, 127);
      dueWritten(0, SUM, "90", tenWithSum(38), "m", 128, -128);
      dueWritten(0, SUM, "90", tenWithSum(75), "mm", 255, -1);
      dueWritten(0, SUM, "90", tenWithSum(76), "mm", 256, 0);
      dueWritten(0, SUM, "90", tenWithSum(77), "mm", 257, 1);
      dueWritten(0, SUM, "90", "", "m", NONE, -1);
      dueWritten(0, AVERAGE, "10", "10;10;11", "e", bits(1f / 3f), (byte) bits(1f / 3f));
    });
    promise(24, "ANSWERS of a plan (the lowest bits that it has) come to a SHEET from item 0 on (shorts)", () -> {
      dueWritten(1, SUM, "90", tenWithSum(38), "m", 128, 128);
      dueWritten(1, SUM, "90", rows(10, "99"), times(12, "m"), 1170, 1170);
      dueWritten(1, SUM, "90", "", "m", NONE, -1);
      // The average is 32 and one eighth, whose lowest bits are the least short.
      dueWritten(1, AVERAGE, "80", "89;88;88;88;88;88;88;88", "mmm", bits(32.125f), -32768);
      dueWritten(1, AVERAGE, "80", "80", "", 0, 0);
      dueWritten(1, AVERAGE, "80", "81;81;81;80;80;80;80", "", bits(3f / 7f), 28087);
    });
    promise(24, "ANSWERS of a plan (the lowest bits that it has) come to a SHEET from item 0 on (ints)", () -> {
      dueWritten(2, AVERAGE, "80", "89;88;88;88;88;88;88;88", "mmm", bits(32.125f), bits(32.125f));
      dueWritten(2, SUM, "90", "", "m", NONE, NONE);
      dueWritten(2, SUM, "90", tenWithSum(76), "mm", 256, 256);
      dueWritten(2, COUNT, "90", "", "", 0, 0);
    });
    promise(24, "as many as there are items, and HOSTS: how many", () -> {
      for (int plan = 0; plan < 2; plan++) for (int form = 0; form < 3; form++) {
        asked("10;20;30", "15;36", "e", SUM).sheet(0, form).due(0, "write", plan, 0);
        asked("10;20;30", "15;36", "e", SUM).sheet(0, form, 7).due(1, "write", plan, 0).dueItems(0, form, 5);
        asked("10;20;30", "15;36", "e", SUM).sheet(0, form, 7, 7).due(2, "write", plan, 0).dueItems(0, form, 5, NONE);
        asked("10;20;30", "15;36", "e", SUM).sheet(0, form, 7, 7, 7).due(3, "write", plan, 0).dueItems(0, form, 5, NONE, 6);
        asked("10;20;30", "15;36", "e", SUM).sheet(0, form, 7, 7, 7, 7).due(3, "write", plan, 0).dueItems(0, form, 5, NONE, 6, 7);
        asked("", "15;36", "e", SUM).sheet(0, form, 7, 7).due(0, "write", plan, 0).dueItems(0, form, 7, 7);
        asked("10;", "15;36", "e", SUM).sheet(0, form, 7, 7).due(0, "write", plan, 0).dueItems(0, form, 7, 7);
        Asked most = asked(TEN, "95;06", "e", SUM);
        most.call("sheet", 3, form, 60);
        most.due(10, "write", plan, 3).due(6, "get", 3, form, 0).due(5, "get", 3, form, 9).due(0, "get", 3, form, 10).due(60, "lose", 3);
      }
    });
    promise(24, "BAD: no such plan", () -> badAround(0, 1, 0, "write", 0, 0));
    promise(24, "BAD: no such SHEET", () -> {
      for (int plan = 0; plan < 2; plan++) badAround(0, 3, 1, "write", plan, 0);
    });
    promise(24, "NULL", () -> {
      for (int plan = 0; plan < 2; plan++) {
        for (int s = 0; s < 4; s++) refused(Start.NEW, NULL, "write", plan, s);
        refused(Start.ORDINARY, NULL, "write", plan, 3);
        refused(Start.IN_ERROR, NULL, "write", plan, 2);
      }
    });
    promise(24, "NOT: there is an ERROR", () -> {
      for (int plan = 0; plan < 2; plan++) {
        refused(Start.IN_ERROR, NOT, "write", plan, 0);
        refused(Start.IN_ERROR, NOT, "write", plan, 3);
        asked("11;12", "11;12", "e", ONLY).sheet(0, 0).due(NOT, "write", plan, 0);
      }
    });
  }

  private static void dueRead(int text, String had, int form, int[] items, int want) {
    Asked x = new Asked().type(text, had).sheet(0, form, items).due(want, "read", text, 0).due(had.length() + want, "count", 4);
    x.dueItems(0, form, items).due(0, "count", 8).due(had.length() + want, "wipe", text);
  }

  private static void read() {
    promise(25, "Bytes from a SHEET come behind a text: how many", () -> {
      for (int form = 0; form < 3; form++) {
        Asked x = asked("12", "34", "e", COUNT).sheet(2, form, ';', '-', '9').due(3, "read", 0, 2).due(2, "count", 0).due(NONE, "row", 0, 1, 0);
        x.due(9, "row", 0, 1, 1).due(3, "read", 1, 2).due(9, "row", 1, 1, 1).sheet(2, form, 'f', '9').due(2, "read", 2, 2).due(9, "step", 1, 1);
        x.sheet(2, form, 'f').due(1, "read", 2, 2).due(4, "fault", 2).due(0, "count", 2);
      }
      for (int text = 0; text < 3; text++) {
        dueRead(text, "", 2, new int[] {0}, 1);
        dueRead(text, "", 2, new int[] {255}, 1);
        dueRead(text, "", 0, new int[] {0, 127}, 2);
      }
    });
    promise(25, "its items, as many as may (the text's room)", () -> {
      for (int text = 0; text < 3; text++) for (int form = 0; form < 3; form++) {
        int room = ROOM[text];
        for (int had : new int[] {0, 1, room - 1, room}) for (int items : new int[] {0, 1, room - had, room - had + 1, 60}) {
          int[] all = new int[items];
          java.util.Arrays.fill(all, '1');
          dueRead(text, times(had, "1"), form, all, Math.min(items, room - had));
        }
      }
    });
    promise(25, "its items, as many as may (those that are bytes)", () -> {
      for (int form = 0; form < 3; form++) for (int at = 0; at < 3; at++) {
        int[] least = {'1', '2', ';'}, greatest = {'1', '2', ';'};
        least[at] = -1;
        dueRead(0, "", form, least, at);
        greatest[at] = form == 0 ? -128 : 256;
        dueRead(0, "", form, greatest, at);
      }
    });
    promise(25, "BAD: no such text", () -> {
      for (int s = 0; s < 4; s++) badAround(0, 2, 0, "read", 0, s);
    });
    promise(25, "BAD: no such SHEET", () -> {
      for (int text = 0; text < 3; text++) badAround(0, 3, 1, "read", text, 0);
    });
    promise(25, "NULL", () -> {
      for (int text = 0; text < 3; text++) {
        for (int s = 0; s < 4; s++) refused(Start.NEW, NULL, "read", text, s);
        refused(Start.ORDINARY, NULL, "read", text, 3);
        refused(Start.FAULTY, NULL, "read", text, 3);
      }
    });
  }

  private static void dueCounts(Asked x, int... want) {
    for (int what = 0; what < want.length; what++) x.due(want[what], "count", what);
  }

  private static void count() {
    promise(26, "0 ROWS of OUTER, 1 of INNER, 2 STEPS, 3 END, 4 bytes of all texts, 5 pairs of THE DOMAIN, 6 what FREE OPENS, 7 READ ROW BY ROW", () -> {
      dueCounts(new Asked(), 0, 0, 0, 0, 0, 0, 1, 0, 0);
      dueCounts(asked(TEN, TEN, times(12, "m"), NOT_IN), 10, 10, 12, 8, 70, 10, 14, 100, 0);
      dueCounts(asked(TEN, TEN, "f1f2f3f4f5f6", COUNT), 10, 10, 6, 0, 70, 0, 7, 100, 0);
      dueCounts(asked(rows(10, "12"), TEN, times(12, "e"), EXISTS), 10, 10, 12, 6, 70, 1, 13, 20, 0);
      dueCounts(asked("12;", "1", "ef", IN), 0, 0, 0, 7, 6, 0, 2, 0, 0);
      // A text with a FAULT has no rows, but bytes.
      dueCounts(new Asked().type(0, times(29, "x")).type(1, times(29, "x")).type(2, times(12, "x")), 0, 0, 0, 0, 70, 0, 1, 0, 0);
    });
    promise(26, "8 the number of the latest FINDING (0 before any)", () -> {
      Asked x = new Asked().due(0, "count", 8).due(BAD, "type", 3, 0).due(NOT, "undo", 0).due(0, "count", 8);
      x.due(SIZE, "sheet", 0, 0, -1).due(5, "count", 8).due(5, "count", 8).due(NULL, "lose", 0).due(1, "count", 8);
      x.due(2, "sheet", 0, 0, 2).due(1, "count", 8).due(LEAST_INT, "get", 0, 1, 0).due(3, "count", 8).due(INDEX, "put", 0, 0, 2, 0).due(2, "count", 8);
      x.due(0, "wipe", 0).due(2, "lose", 0).due(2, "count", 8);
    });
    promise(26, "BAD", () -> badAround(0, 8, 0, "count", 0));
  }

  /** Calls of as many objects, made alike, as are needed for none to be called too often. */
  private static final class Many {
    private final Supplier<Asked> made;
    private Asked now;
    private int calls = 0;

    Many(Supplier<Asked> made) {
      this.made = made;
      now = made.get();
    }

    long call(String name, int... args) {
      calls++;
      if (calls % 300 == 0) now = made.get();
      return now.call(name, args);
    }
  }

  private static BigInteger h;

  private static void mix(long x) {
    h = h.multiply(BigInteger.valueOf(31)).add(BigInteger.valueOf(x));
  }

  private static void mixAnswers(Many x, int plan) {
    mix(x.call("error", plan));
    long hosts = x.call("count", 0);
    for (int host = 0; host < hosts; host++) mix(x.call("answer", plan, host));
  }

  /** As numbers without an end, of which the lowest 64 bits are what longs that wrap come to. */
  private static long digestInFull(String outer, String inner, String steps, int end) {
    Many x = new Many(() -> asked(outer, inner, steps, end));
    h = BigInteger.valueOf(17);
    for (int what = 0; what < 8; what++) mix(x.call("count", what));
    for (int text = 0; text < 3; text++) mix(x.call("fault", text));
    for (int row = 0; row < 10; row++) for (int i = 0; i < 4; i++) mix(x.call("row", i / 2, row, i % 2));
    for (int i = 0; i < 12; i++) {
      mix(x.call("step", i, 0));
      mix(x.call("step", i, 1));
      mix(x.call("plan", i));
    }
    mix(x.call("speaks"));
    mix(x.call("domain", NONE, 0));
    mix(x.call("same"));
    mix(x.call("total"));
    mix(x.call("spare"));
    for (int plan = 0; plan < 2; plan++) {
      mixAnswers(x, plan);
      for (int what = 0; what < 5; what++) mix(x.call("cost", plan, what));
      for (int i = 0; i < 60; i++) mix(x.call("log", plan, i));
    }
    for (int i = 0; i < 20; i++) mix(x.call("domain", i / 2, i % 2));
    for (int kind = 0; kind < 9; kind++) {
      int other = kind;
      Many y = new Many(() -> asked(outer, inner, steps, other));
      mixAnswers(y, 0);
      mixAnswers(y, 1);
    }
    return h.longValue();
  }

  private static final String[][] QUESTIONS = {{"", "", ""}, {TEN, TEN, "mmmmmmmmmmmm"}, {"12;34;12;-1", "11;12;35;36", "eud"}, {"12;", "1x", "ef"},
      {"12;3-;--", "", "f1e"}, {"", TEN, "gd"}, {TEN, "91;92", "e"}, {TEN, "", "uuuuuuuuuuuu"}};

  private static void digest() {
    promise(27, "as longs that wrap", () -> {
      for (String[] q : QUESTIONS) for (int end = 0; end < 9; end++) {
        asked(q[0], q[1], q[2], end).due(digestInFull(q[0], q[1], q[2], end), "digest");
      }
    });
    promise(27, "with the END as told, then likewise of ENDS 0 to 8, in place of what is told", () -> {
      for (String[] q : QUESTIONS) for (int end = 0; end < 9; end++) {
        int kind = end;
        // The END, and all that is told with it, stay as they were.
        Supplier<Asked> behind = () -> {
          Asked x = asked(q[0], q[1], q[2], kind);
          x.call("answer", 0, 0);
          x.call("digest");
          return x;
        };
        dueAlike("behind digest()", () -> asked(q[0], q[1], q[2], kind), behind, 0, 1, 2, 3, 8);
      }
    });
    promise(27, "it tells nothing of SHEETS and of FINDINGS", () -> {
      long bare = asked("12", "13", "e", SUM).call("digest");
      Asked x = asked("12", "13", "e", SUM).sheet(0, 0, 1, 2, 3).due(SIZE, "sheet", 1, 1, -1).due(bare, "digest").due(3, "lose", 0).due(bare, "digest");
      x.due(5, "count", 8);
    });
  }

  public static void main(String[] args) {
    newObject();
    type();
    wipe();
    undo();
    fault();
    row();
    step();
    end();
    error();
    answer();
    same();
    total();
    speaks();
    domain();
    plan();
    cost();
    log();
    spare();
    sheet();
    lose();
    put();
    get();
    copy();
    write();
    read();
    count();
    digest();
    finish();
  }
}
