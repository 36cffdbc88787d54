/** The boundary cases that the document's terms name: a test for each sentence. */
public final class TermsBoundaryTests extends Sentences {
  private static void terms(String words, Runnable test) {
    sentence("Terms", words, test);
  }

  // ---- texts

  private static boolean isFigure(int b) {
    return b >= '0' && b <= '9';
  }

  private static void dueRoom(int text) {
    Asked x = new Asked();
    for (int n = 1; n <= ROOM[text]; n++) x.due(n, "type", text, '1');
    x.due(FULL, "type", text, '1').due(ROOM[text], "count", 4);
    x.due(ROOM[text] - 1, "undo", text).due(ROOM[text], "type", text, '1').due(FULL, "type", text, '1');
    x.due(ROOM[text], "wipe", text);
    for (int n = -1; n <= 1; n++) {
      int room = ROOM[text];
      Asked y = new Asked();
      y.call("sheet", 0, 2, room + n);
      y.due(Math.min(room, room + n), "read", text, 0).due(Math.min(room, room + n), "wipe", text);
    }
  }

  private static void values() {
    for (int text = 0; text < 2; text++) {
      for (int k = 0; k <= 9; k++) {
        Asked x = new Asked().type(text, k + "-;-" + k);
        x.due(k, "row", text, 0, 0).due(NONE, "row", text, 0, 1).due(NONE, "row", text, 1, 0).due(k, "row", text, 1, 1);
      }
      // The neighbours of the figures and of -.
      for (char c : "/:,.".toCharArray()) new Asked().type(text, c + "1").due(0, "fault", text);
    }
  }

  private static void tenRows() {
    for (int table = 0; table < 2; table++) {
      Asked x = new Asked().type(table, TEN).due(10, "count", table);
      for (int row = 0; row < 10; row++) x.due(row, "row", table, row, 0).due(9 - row, "row", table, row, 1);
      x.due(BAD, "row", table, 10, 0).due(BAD, "row", table, -1, 0);
      Asked nine = new Asked().type(table, TEN.substring(0, 26)).due(9, "count", table);
      nine.due(8, "row", table, 8, 0).due(BAD, "row", table, 9, 0);
      Asked one = new Asked().type(table, "12").due(1, "count", table).due(1, "row", table, 0, 0).due(BAD, "row", table, 1, 0);
      one.call("wipe", table);
      one.due(0, "count", table).due(BAD, "row", table, 0, 0);
    }
  }

  private static void tableSigns() {
    for (int text = 0; text < 2; text++) for (int b = 0; b < 256; b++) {
      boolean value = isFigure(b) || b == '-';
      Asked x = new Asked();
      x.call("type", text, b);
      x.due(value ? 1 : 0, "fault", text).type(text, "1").due(value ? NONE : 0, "fault", text);
      Asked y = new Asked().type(text, "1");
      y.call("type", text, b);
      y.due(value ? NONE : 1, "fault", text);
      Asked z = new Asked().type(text, "12");
      z.call("type", text, b);
      z.type(text, "34").due(b == ';' ? NONE : 2, "fault", text).due(b == ';' ? 2 : 0, "count", text);
    }
  }

  private static void stepSigns() {
    for (int b = 0; b < 256; b++) {
      int code = " elmudg".indexOf(b);
      Asked x = new Asked();
      x.call("type", 2, b);
      x.due(code > 0 ? NONE : b == 'f' ? 1 : 0, "fault", 2).due(code > 0 ? code : BAD, "step", 0, 0);
      Asked y = new Asked().type(2, "f");
      y.call("type", 2, b);
      y.due(isFigure(b) ? NONE : 1, "fault", 2);
      y.due(isFigure(b) ? 7 : BAD, "step", 0, 0).due(isFigure(b) ? b - '0' : BAD, "step", 0, 1);
    }
    // A figure stands behind f alone.
    new Asked().type(2, "e1").due(1, "fault", 2);
    new Asked().type(2, "f11").due(2, "fault", 2);
  }

  private static void dueFault(int text, String s, int want) {
    Asked x = new Asked().type(text, s);
    due("fault(" + text + ") of " + s, x.call("fault", text), want);
  }

  private static void firstWrongByte() {
    for (int text = 0; text < 2; text++) {
      dueFault(text, "xx", 0);
      dueFault(text, "1xx", 1);
      dueFault(text, "12xx", 2);
      dueFault(text, "12;;1", 3);
      dueFault(text, "12;3;x", 4);
      for (int at = 0; at < 29; at++) dueFault(text, TEN.substring(0, at) + times(29 - at, "x"), at);
      for (int at = 0; at < 29; at++) dueFault(text, TEN.substring(0, at) + "x" + TEN.substring(at + 1), at);
    }
    for (int at = 0; at < 12; at++) dueFault(2, times(at, "e") + times(12 - at, "x"), at);
    for (int at = 0; at < 6; at++) dueFault(2, times(at, "f1") + times(6 - at, "ff"), 2 * at + 1);
  }

  private static void emptyIsWell() {
    for (int text = 0; text < 3; text++) {
      Asked x = new Asked().due(NONE, "fault", text).type(text, "x").due(0, "fault", text);
      x.call("undo", text);
      x.due(NONE, "fault", text).type(text, "xy");
      x.call("wipe", text);
      x.due(NONE, "fault", text);
    }
  }

  private static void notEnded() {
    for (int text = 0; text < 2; text++) {
      for (int n = 0; n <= 29; n++) dueFault(text, TEN.substring(0, n), n == 0 || n % 3 == 2 ? NONE : n);
    }
    for (int n = 0; n < 12; n++) {
      dueFault(2, times(n, "e") + "f", n + 1);
      if (n < 11) dueFault(2, times(n, "e") + "f1", NONE);
    }
  }

  private static void eleventhRow() {
    for (int text = 0; text < 2; text++) {
      Asked x = new Asked().type(text, TEN).due(NONE, "fault", text);
      // The text ends where an eleventh row could begin only two bytes later.
      x.due(FULL, "type", text, ';').sheet(0, 0, ';', '1', '2').due(0, "read", text, 0);
      x.due(NONE, "fault", text).due(10, "count", text);
    }
  }

  /** All that the question tells, but what tells of the bytes themselves. */
  private static void faultIsEmpty() {
    String[][] ill = {{"12;34;", "1x", "12;3", ";12"}, {"12;34;", "1x", "12;3", ";12"}, {"ef", "edx", "f", "1e"}};
    String[] well = {"12;3-;--", "13;1-;32;-1", "emud"};
    for (int text = 0; text < 3; text++) for (String s : ill[text]) for (int end = 0; end < 9; end++) {
      int which = text, kind = end;
      String[] with = well.clone(), without = well.clone();
      with[text] = s;
      without[text] = "";
      dueAlike(s, () -> asked(with[0], with[1], with[2], kind), () -> asked(without[0], without[1], without[2], kind), 0, 2, 3);
      asked(with[0], with[1], with[2], kind).due(s.length(), "wipe", which);
    }
  }

  private static void endAtFirst() {
    new Asked().due(0, "count", 3).due(0, "end", 8).due(8, "end", 0);
    new Asked().type(0, "12").type(1, "15;16;1-").dueAnswers(0, 3).dueAnswers(1, 3);
  }

  private static void texts() {
    terms("0 to 9, or MISSING", TermsBoundaryTests::values);
    terms("texts of up to 29 bytes (texts 0, 1)", () -> { dueRoom(0); dueRoom(1); });
    terms("of up to 10 ROWS (0 on)", TermsBoundaryTests::tenRows);
    terms("with ; between them: K and V, each a figure, or - (MISSING)", TermsBoundaryTests::tableSigns);
    terms("STEPS are a text of up to 12 bytes (text 2)", () -> dueRoom(2));
    terms("g (GROUP) or f and a figure 0 to 9 (FILTER)", TermsBoundaryTests::stepSigns);
    terms("The FAULT of a text is the place of the first byte with which it cannot go on", TermsBoundaryTests::firstWrongByte);
    terms("an empty one is well", TermsBoundaryTests::emptyIsWell);
    terms("of one that is not ended, its end", TermsBoundaryTests::notEnded);
    terms("here also of the first byte of an eleventh ROW", TermsBoundaryTests::eleventhRow);
    terms("With a FAULT a text is as if it was empty", TermsBoundaryTests::faultIsEmpty);
    terms("END is 0 COUNT (at first)", TermsBoundaryTests::endAtFirst);
  }

  // ---- steps

  private static void equal() {
    // First, so that FREE joins by it, and behind another one that speaks of the HOST.
    for (String steps : new String[] {"e", "me", "ee"}) {
      dueAnswers("1-;--;0-;9-;5-", "1-;-1;--;0-;9-;2-;-0", steps, COUNT, 1, 0, 1, 1, 0);
    }
  }

  private static void less() {
    for (String steps : new String[] {"l", "ml", "ll"}) {
      dueAnswers("1-;--;0-;9-", "0-;1-;--;2-;9-;8-", steps, COUNT, 1, 0, 0, 4);
    }
  }

  private static void more() {
    dueAnswers("1-;--;0-;9-", "19", "m", SUM, 10, NONE, 9, 18);
    dueAnswers("1-;--;0-;9-", "10", "m", SUM, 1, NONE, 0, 9);
    dueAnswers("1-;--;0-;9-", "1-", "m", SUM, NONE, NONE, NONE, NONE);
    dueAnswers("1-;--;0-;9-", "1-;19", "m", COUNT, 2, 2, 2, 2);
    dueAnswers("9-;0-;--", "19", times(12, "m"), SUM, 117, 9, NONE);
  }

  private static void union() {
    dueAnswers("12;-5;3-;--", "", "u", COUNT, 1, 1, 1, 1);
    dueAnswers("12;-5;3-;--", "", "u", SUM, 2, 5, NONE, NONE);
    dueAnswers("12;-5", "", "ue", COUNT, 1, 0);
    dueAnswers("12", TEN, times(12, "u"), COUNT, 22);
    // Were it not behind the others, it would be handed on first, and INNER not be read.
    asked("12", "34", "u", EXISTS).dueCosts(0, 1, 2);
    asked("12", "", "u", EXISTS).dueCosts(0, 0, 1);
  }

  private static void distinct() {
    String[] tables = {"", "12", "12;12", "12;13", "12;22", "--;--", "1-;1-", "-1;-1", "1-;10", "-1;01", "--;00", "12;34;12", rows(10, "12"), TEN};
    int[] left = {0, 1, 1, 2, 2, 1, 1, 1, 2, 2, 2, 2, 1, 10};
    for (int i = 0; i < tables.length; i++) {
      dueAnswers("19;--", tables[i], "d", COUNT, left[i], left[i]);
      // The same by FREE behind THE JOIN: MORE of 0 changes no V.
      dueAnswers("09", tables[i], "md", COUNT, left[i]);
    }
    // The first one stays: it is handed on before the one like it is read.
    asked("12", "34;34", "d", EXISTS).dueCosts(0, 1, 2);
  }

  private static void group() {
    String[] tables = {"", "1-", "-1;--;0-", "0-;--", "12;34;15", rows(10, "--"), rows(10, "37"), TEN};
    int[] groups = {0, 1, 2, 2, 2, 1, 1, 10}, rows = {NONE, 1, 3, 2, 3, 10, 10, 10};
    for (int i = 0; i < tables.length; i++) for (String steps : new String[] {"g", "mg"}) {
      dueAnswers("09", tables[i], steps, COUNT, groups[i]);
      dueAnswers("09", tables[i], steps, SUM, rows[i]);
    }
    // GROUP hands on 5, which is one, then 1, of which there are two; or 1 alone, if it comes first.
    asked("12", "51;12;13", "gf2", EXISTS).dueCosts(0, 3, 3 + 2 + 1);
    asked("12", "12;13;51", "gf2", EXISTS).dueCosts(0, 3, 3 + 1 + 1);
    asked("12", "12;51;13", "gf2", EXISTS).dueCosts(0, 3, 3 + 1 + 1);
  }

  private static void filter() {
    for (int figure = 0; figure <= 9; figure++) {
      dueAnswers("19", TEN, "f" + figure, COUNT, 10 - figure);
      dueAnswers("19", "1" + figure, "f" + figure, COUNT, 1);
      dueAnswers("19", "1-", "f" + figure, COUNT, 0);
      if (figure > 0) dueAnswers("19", "1" + (figure - 1), "f" + figure, COUNT, 0);
    }
    dueAnswers("09;19;--", "18;1-", "mf9", COUNT, 0, 1, 0);
    dueAnswers("9-", "19", "mf9", SUM, 18);
  }

  private static void steps() {
    terms("by EQUAL those stay whose K is the HOST's (neither MISSING)", TermsBoundaryTests::equal);
    terms("by LESS whose K is less than the HOST's (neither MISSING)", TermsBoundaryTests::less);
    terms("by MORE V becomes V and the HOST's K together (MISSING, if either is)", TermsBoundaryTests::more);
    terms("by UNION the HOST itself comes behind all others", TermsBoundaryTests::union);
    terms("by DISTINCT of those that are alike in K and V (MISSING is like MISSING) the first one stays", TermsBoundaryTests::distinct);
    terms("by GROUP there is one for each K (MISSING is one too), in the order in which they come first, with V how many there were",
        TermsBoundaryTests::group);
    terms("by FILTER those stay whose V is not MISSING and the figure at least", TermsBoundaryTests::filter);
  }

  // ---- answers

  /** For one host with V 9 or MISSING, of rows that no step touches, and of those that one has taken away. */
  private static void dueOfRows(String inner, int end, int want) {
    for (String outer : new String[] {"19", "1-"}) {
      dueAnswers(outer, inner, "", end, want);
      dueAnswers(outer, inner, "e", end, want);
      dueAnswers(outer, inner + (inner.isEmpty() ? "" : ";") + "25", "e", end, want);
    }
  }

  private static void dueAverage(String inner, float want) {
    dueOfRows(inner, AVERAGE, bits(want));
  }

  private static void count() {
    dueOfRows("", COUNT, 0);
    dueOfRows("1-", COUNT, 1);
    dueOfRows("1-;10;1-", COUNT, 3);
    dueAnswers("12", TEN, "", COUNT, 10);
  }

  private static void sum() {
    dueOfRows("", SUM, NONE);
    dueOfRows("1-", SUM, NONE);
    dueOfRows("1-;1-", SUM, NONE);
    dueOfRows("10", SUM, 0);
    dueOfRows("1-;10", SUM, 0);
    dueOfRows("19;1-;19", SUM, 18);
    dueAnswers("90", rows(10, "99"), "", SUM, 90);
    dueAnswers("99", rows(10, "99"), "um", SUM, 198);
    dueAnswers("90", rows(10, "99"), times(12, "m"), SUM, 1170);
  }

  private static void least() {
    dueOfRows("", LEAST, NONE);
    dueOfRows("1-;1-", LEAST, NONE);
    dueOfRows("10;1-", LEAST, 0);
    dueOfRows("19;10", LEAST, 0);
    dueOfRows("10;19", LEAST, 0);
    dueOfRows("1-;19;18", LEAST, 8);
    dueAnswers("99", "99", times(12, "m"), LEAST, 117);
  }

  private static void greatest() {
    dueOfRows("", GREATEST, NONE);
    dueOfRows("1-;1-", GREATEST, NONE);
    dueOfRows("10;1-", GREATEST, 0);
    dueOfRows("10;19", GREATEST, 9);
    dueOfRows("19;10", GREATEST, 9);
    dueOfRows("1-;18;17", GREATEST, 8);
    dueAnswers("99", "99", times(12, "m"), GREATEST, 117);
  }

  private static void average() {
    dueOfRows("", AVERAGE, NONE);
    dueOfRows("1-;1-", AVERAGE, NONE);
    dueAverage("10", 0f);
    dueAverage("10;1-", 0f);
    dueAverage("11;1-", 1f);
    dueAverage("11;12", 1.5f);
    dueAverage("10;10;11", 1f / 3f);
    dueAverage("19;19;18", 26f / 3f);
    dueAnswers("12", "10;10;10;10;10;10;10;10;10;11", "", AVERAGE, bits(1f / 10f));
    for (int n = 1; n <= 10; n++) for (int sum = 0; sum <= 9 * n; sum++) {
      asked("12", withSum(n, sum), "", AVERAGE).due(bits((float) sum / (float) n), "answer", 0, 0);
    }
    // Whole powers of two, and what stands next to them.
    for (int times = 0; times <= 12; times++) for (int v = 0; v <= 9; v++) for (int k = 1; k <= 9; k += 4) {
      dueAnswers(k + "1", "1" + v, times(times, "m"), AVERAGE, bits(v + times * k));
    }
    dueAnswers("91", "99", times(12, "m"), AVERAGE, bits(117f));
    dueAnswers("91", rows(10, "10"), times(12, "u"), AVERAGE, bits(12f / 22f));
  }

  private static String withSum(int n, int sum) {
    String[] all = new String[n];
    int left = sum;
    for (int i = 0; i < n; i++) {
      all[i] = "1" + Math.min(left, 9);
      left -= Math.min(left, 9);
    }
    return String.join(";", all);
  }

  /** Neither an answer nor the error depends on which plan it is. */
  private static void dueError(String outer, String inner, String steps, int want) {
    asked(outer, inner, steps, ONLY).due(want, "error", 0).due(want, "error", 1).due(1, "same");
  }

  private static void only() {
    dueOfRows("", ONLY, NONE);
    dueOfRows("1-", ONLY, NONE);
    dueOfRows("10", ONLY, 0);
    dueOfRows("19", ONLY, 9);
    dueAnswers("99", "99", times(12, "m"), ONLY, 117);
    String[] tables = {"10;10", "1-;1-", "1-;15", "11;12;13", rows(10, "15")};
    for (String inner : tables) for (String steps : new String[] {"", "e"}) dueError("19", inner, steps, 0);
  }

  private static void exists() {
    dueOfRows("", EXISTS, 0);
    dueOfRows("1-", EXISTS, 1);
    dueOfRows("10", EXISTS, 1);
    dueOfRows("10;10", EXISTS, 1);
  }

  /** Rows with hosts whose V is 0, 5 and MISSING, by IN, and by NOT IN as it follows from it. */
  private static void dueIn(int end, String inner, int... in) {
    int[] want = in.clone();
    for (int i = 0; i < want.length && end == NOT_IN; i++) if (in[i] != NONE) want[i] = 1 - in[i];
    dueAnswers("10;15;1-", inner, "", end, want);
    dueAnswers("10;15;1-", inner, "e", end, want);
    // No K is less than the HOST's and the HOST's too, so none is left.
    int none = end == IN ? 0 : 1;
    dueAnswers("10;15;1-", inner, "le", end, none, none, none);
  }

  private static void inRows(int end) {
    dueIn(end, "", 0, 0, 0);
    dueIn(end, "10", 1, 0, NONE);
    dueIn(end, "1-", NONE, NONE, NONE);
    dueIn(end, "15;1-", NONE, 1, NONE);
    dueIn(end, "1-;15", NONE, 1, NONE);
    dueIn(end, "14;16", 0, 0, NONE);
    dueIn(end, "14;1-", NONE, NONE, NONE);
    dueIn(end, "10;15", 1, 1, NONE);
    // A missing V of a row that is no longer left counts for nothing.
    dueAnswers("15;1-", "2-;14", "e", end, end == IN ? 0 : 1, NONE);
    dueAnswers("15;1-", "1-;14", "f0", end, end == IN ? 0 : 1, NONE);
  }

  private static void anew() {
    dueAnswers(rows(10, "12"), "12;12;34", "d", COUNT, 2, 2, 2, 2, 2, 2, 2, 2, 2, 2);
    dueAnswers("12;12", "12;12;34", "g", SUM, 3, 3);
    dueAnswers("12;12", "12;12;34", "eg", SUM, 2, 2);
    asked(rows(10, "12"), rows(10, "12"), "", COUNT).dueCosts(0, 100, 100).due(10, "cost", 0, 2);
    asked("12", rows(10, "12"), "", COUNT).dueCosts(0, 10, 10).due(1, "cost", 0, 2);
    asked("", rows(10, "12"), "", COUNT).dueCosts(0, 0, 0).due(0, "cost", 0, 2);
  }

  private static void errorEnds() {
    int[] keys = {0, 4, 9};
    for (int at : keys) {
      Asked x = asked(TEN, at + "1;" + at + "2", "e", ONLY);
      for (int plan = 0; plan < 2; plan++) {
        x.due(at, "error", plan);
        for (int host = 0; host < 10; host++) x.due(NOT, "answer", plan, host);
      }
      // Hosts behind it are not asked for any more.
      x.due(2 * (at + 1), "cost", 0, 2).due(NOT, "total").due(1, "same");
    }
    dueAnswers(TEN, "05;16", "e", ONLY, 5, 6, NONE, NONE, NONE, NONE, NONE, NONE, NONE, NONE);
  }

  private static void answers() {
    terms("by COUNT how many ROWS are left", TermsBoundaryTests::count);
    terms("by SUM, LEAST, GREATEST of those V that are not MISSING, NONE if there is none (SUM)", TermsBoundaryTests::sum);
    terms("by SUM, LEAST, GREATEST of those V that are not MISSING, NONE if there is none (LEAST)", TermsBoundaryTests::least);
    terms("by SUM, LEAST, GREATEST of those V that are not MISSING, NONE if there is none (GREATEST)", TermsBoundaryTests::greatest);
    terms("by AVERAGE the float of their SUM divided by the float of how many, as bits (floatToIntBits()), NONE if there is none",
        TermsBoundaryTests::average);
    terms("by ONLY V of the one that is left, NONE if there is none or it is MISSING, an ERROR if there are two or more",
        TermsBoundaryTests::only);
    terms("by EXISTS 1 if any is left, else 0", TermsBoundaryTests::exists);
    terms("by IN 1 if any V is the HOST's V (neither MISSING), else 0 if none is left, or neither the HOST's V nor any V is MISSING, else NONE",
        () -> inRows(IN));
    terms("by NOT IN 0 where IN tells 1, 1 where it tells 0, NONE where NONE", () -> inRows(NOT_IN));
    terms("ROW BY ROW all is done anew for each HOST, in order", TermsBoundaryTests::anew);
    terms("By an ERROR all ends: the question has no ANSWERS, but an ERROR at that HOST", TermsBoundaryTests::errorEnds);
  }

  // ---- FREE

  private static void whatSpeaks() {
    // 0: it does not speak; 1: of K; 2: of K and V.
    String[] steps = {"e", "l", "m", "u", "d", "g", "f0"};
    int[] speak = {1, 1, 1, 2, 0, 0, 0};
    for (int i = 0; i < 7; i++) for (int end = 0; end < 9; end++) {
      int spoken = end >= IN ? 2 : speak[i];
      Asked x = asked("12", "", steps[i], end);
      x.due((speak[i] > 0 ? 1 : 0) + (end >= IN ? 4096 : 0), "speaks");
      if (spoken == 0) x.dueDomain();
      else x.dueDomain(1, spoken == 1 ? NONE : 2);
    }
  }

  private static void nothingSpeaks() {
    Asked x = asked(TEN, "12;12;3-", "dgf1", COUNT).dueDomain().duePlan(0, 5, 6, 7).due(0, "speaks");
    x.dueAnswers(1, 2, 2, 2, 2, 2, 2, 2, 2, 2, 2).dueCosts(1, 3, 3 + 2 + 2 + 2).dueCosts(0, 30, 90);
    Asked y = asked(TEN, "12;12", "", ONLY).dueDomain().duePlan(0).due(0, "error", 1).due(0, "error", 0);
    y.dueCosts(1, 2, 2);
    // Also if an earlier question had one answer for each pair.
    Asked z = asked(TEN, "12;12;3-", "ed", COUNT).dueAnswers(1, 0, 1, 0, 1, 0, 0, 0, 0, 0, 0);
    z.call("wipe", 2);
    z.dueDomain().dueAnswers(1, 3, 3, 3, 3, 3, 3, 3, 3, 3, 3);
    asked("", "12;12", "", ONLY).dueDomain().duePlan(0).due(NONE, "error", 1).due(NONE, "error", 0).dueCosts(1, 2, 2);
  }

  private static void domainInOrder() {
    asked(TEN, "", "u", COUNT).dueDomain(0, 9, 1, 8, 2, 7, 3, 6, 4, 5, 5, 4, 6, 3, 7, 2, 8, 1, 9, 0);
    asked(rows(10, "95"), "", "u", COUNT).dueDomain(9, 5);
    asked(rows(10, "--"), "", "u", COUNT).dueDomain(NONE, NONE);
    asked("--;-0;0-;00;--;00", "", "u", COUNT).dueDomain(NONE, NONE, NONE, 0, 0, NONE, 0, 0);
    asked("31;12;31;-1;12", "", "", IN).dueDomain(3, 1, 1, 2, NONE, 1);
    asked("", "", "u", COUNT).dueDomain();
  }

  private static void onlyKeys() {
    for (String steps : new String[] {"e", "l", "m", "elm", "dgf1m"}) {
      asked("12;13;1-;--;-9", "", steps, COUNT).dueDomain(1, NONE, NONE, NONE);
      asked("12;13;1-;--;-9", "", steps, NOT_IN).dueDomain(1, 2, 1, 3, 1, NONE, NONE, NONE, NONE, 9);
    }
    asked("12;13;1-;--;-9", "", "eu", COUNT).dueDomain(1, 2, 1, 3, 1, NONE, NONE, NONE, NONE, 9);
  }

  private static void stepsAhead() {
    asked(TEN, "11;11;12", "dm", COUNT).duePlan(0, 5, 8, 3).dueCosts(1, 3, 3 + 2 + 20 + 20);
    asked(TEN, "11;11;12", "md", COUNT).duePlan(0, 8, 3, 5).dueCosts(1, 3, 3 + 30 + 30 + 20);
    asked(TEN, "11;12;33", "gl", COUNT).duePlan(0, 6, 8, 2).dueCosts(1, 3, 3 + 2 + 20 + 8 + 6);
    asked(TEN, "11", times(11, "d") + "m", COUNT).duePlan(0, 5, 5, 5, 5, 5, 5, 5, 5, 5, 5, 5, 8, 3).dueCosts(1, 1, 12 + 20);
    asked(TEN, "11", times(12, "d"), IN).duePlan(0, 5, 5, 5, 5, 5, 5, 5, 5, 5, 5, 5, 5, 8).dueCosts(1, 1, 13 + 10);
  }

  private static void join() {
    asked(TEN, TEN, "m", COUNT).duePlan(0, 8, 3).dueCosts(1, 10, 10 + 100 + 100);
    asked(TEN, TEN, "", IN).duePlan(0, 8).dueCosts(1, 10, 10 + 100);
    asked(rows(10, "12"), TEN, "", IN).duePlan(0, 8).dueCosts(1, 10, 10 + 10);
    asked("", TEN, "m", COUNT).duePlan(0, 8, 3).dueCosts(1, 10, 10);
    asked(TEN, "", "m", COUNT).duePlan(0, 8, 3).dueCosts(1, 0, 0);
    // Missing values are joined like others.
    asked("--;1-", "--;-1", "", NOT_IN).dueCosts(1, 2, 2 + 4);
  }

  private static void joinOfEqual() {
    asked("12;-1;3-", "1-;--;5-;-5", "e", COUNT).duePlan(0, 9).dueCosts(1, 4, 4 + 1);
    asked("", "1-;--", "e", COUNT).duePlan(0, 9).dueCosts(1, 2, 2);
    asked("--", "-1;--", "e", COUNT).duePlan(0, 9).dueCosts(1, 2, 2);
    asked(TEN, TEN, "e", COUNT).duePlan(0, 9).dueCosts(1, 10, 10 + 10);
    asked(TEN, "01;95", "ee", COUNT).duePlan(0, 9, 1).dueCosts(1, 2, 2 + 2 + 2);
    // Several pairs may have that K, where V is spoken of too: each of their hosts has the row.
    asked("12;13", "15", "eu", COUNT).duePlan(0, 9, 4).dueCosts(1, 1, 1 + 2 + 2 + 2).dueAnswers(1, 2, 2);
  }

  private static void byThePairsKey() {
    // Behind a step that joins every row with every pair, a MISSING K and the least and greatest one.
    dueAnswers("--;0-;9-;5-", "05;95;-5;55", "me", COUNT, 0, 1, 1, 1);
    dueAnswers("--;0-;9-;5-", "05;95;-5;55", "ml", COUNT, 0, 0, 2, 1);
    dueAnswers("--;0-;9-;5-", "05", "mm", SUM, NONE, 5, 23, 15);
    dueAnswers("-7;07;97;57", "", "ue", SUM, NONE, 7, 7, 7);
    dueAnswers("-7;07;97;57", "", "um", SUM, NONE, 7, 16, 12);
    dueAnswers("-7;07;97;57", "", "ul", COUNT, 0, 0, 0, 0);
  }

  private static void goTogether() {
    dueAnswers("1-;2-;0-", "09;09", "ld", COUNT, 1, 1, 0);
    dueAnswers("1-;2-;0-", "09;09", "lg", COUNT, 1, 1, 0);
    dueAnswers("1-;2-;0-", "09;09", "lg", SUM, 2, 2, NONE);
    dueAnswers("12;13;12", "12;13", "ud", COUNT, 2, 2, 2);
    dueAnswers("12;13;12", "12;13", "ug", SUM, 3, 3, 3);
    asked("1-;2-;0-", "09;09", "ld", COUNT).dueCosts(1, 2, 2 + 6 + 4 + 2);
    // Ten pairs with as many rows as there can be, each twice, and each with a K of its own.
    int[] five = {5, 5, 5, 5, 5, 5, 5, 5, 5, 5}, ten = {10, 10, 10, 10, 10, 10, 10, 10, 10, 10};
    dueAnswers(TEN, "01;12;23;34;45;01;12;23;34;45", "md", COUNT, five);
    dueAnswers(TEN, "01;12;23;34;45;01;12;23;34;45", "mg", COUNT, five);
    dueAnswers(TEN, "01;12;23;34;45;01;12;23;34;45", "mg", SUM, ten);
    dueAnswers(TEN, TEN, "md", COUNT, ten);
    dueAnswers(TEN, TEN, "mgg", SUM, ten);
    dueAnswers(TEN, TEN, times(11, "u") + "d", COUNT, ten);
    dueAnswers(TEN, TEN, times(11, "u") + "g", COUNT, ten);
    dueAnswers(TEN, TEN, times(11, "u") + "g", GREATEST, 12, 12, 12, 12, 12, 12, 12, 12, 12, 12);
    asked("1-;2-;0-", "09;09", "lg", COUNT).dueCosts(1, 2, 2 + 6 + 4 + 2);
  }

  private static void unionOfPairs() {
    asked("12;12;3-;--", "", "u", COUNT).dueCosts(1, 0, 3).dueAnswers(1, 1, 1, 1, 1);
    asked("", "12", "u", COUNT).dueCosts(1, 1, 1);
    asked(TEN, TEN, "u", COUNT).dueCosts(1, 10, 10 + 100 + 110);
    asked(TEN, "", times(12, "u"), COUNT).dueCosts(1, 0, 10 * (1 + 2 + 3 + 4 + 5 + 6 + 7 + 8 + 9 + 10 + 11 + 12));
    dueAnswers(TEN, TEN, times(12, "u"), COUNT, 22, 22, 22, 22, 22, 22, 22, 22, 22, 22);
    dueAnswers("12;3-;--", "", "u", ONLY, 2, NONE, NONE);
  }

  private static void pairsWithNoRows() {
    int[] want = {0, NONE, NONE, NONE, NONE, NONE, 0, 0, 1};
    for (int end = 0; end < 9; end++) {
      for (String steps : new String[] {"e", "l", "me", "mf9", "ed", "eg", "led"}) {
        dueAnswers("02;0-;--;02", "", steps, end, want[end], want[end], want[end], want[end]);
      }
      // Some have rows, others none.
      asked("12;0-;--", "13", "e", end).due(want[end], "answer", 1, 1).due(want[end], "answer", 1, 2);
    }
  }

  private static void answerOfPair() {
    dueAnswers("15;25;15;19;25;-5", "13;14;20", "e", SUM, 7, 0, 7, 7, 0, NONE);
    dueAnswers("13;15;13;1-;25", "13;14;20", "e", IN, 1, 0, 1, NONE, 0);
    dueAnswers("01;02;03;04;05;06;07;08;09;00", "05", "e", IN, 0, 0, 0, 0, 1, 0, 0, 0, 0, 0);
    dueAnswers(TEN, "91", "e", SUM, NONE, NONE, NONE, NONE, NONE, NONE, NONE, NONE, NONE, 1);
  }

  private static void firstHostWithError() {
    dueError("31;12;11;12", "12;13", "e", 1);
    dueError("31;12;11;32", "32;31;12;13", "e", 0);
    dueError("--;11;32;31", "32;31;-1;-1", "e", 2);
    dueError(TEN, "91;92", "e", 9);
    dueError(TEN, "01;02", "l", 1);
    dueError(rows(10, "12"), "", "uu", 0);
    dueError("", "11;12", "m", NONE);
    dueError("21;31", "11;12", "e", NONE);
  }

  private static void free() {
    terms("EQUAL, LESS, MORE of its K; UNION, and IN, NOT IN as ENDS, of its K and V", TermsBoundaryTests::whatSpeaks);
    terms("If nothing does, STEPS and END are done once, for all HOSTS, without THE DOMAIN", TermsBoundaryTests::nothingSpeaks);
    terms("THE DOMAIN are the pairs of VALUES that HOSTS have, each once, in the order in which they come first", TermsBoundaryTests::domainInOrder);
    terms("if only K is spoken of, MISSING stands for each V", TermsBoundaryTests::onlyKeys);
    terms("The STEPS ahead of the first one that speaks of the HOST are done once, without THE DOMAIN", TermsBoundaryTests::stepsAhead);
    terms("Then comes THE JOIN: each ROW with each pair, pair by pair for each ROW", TermsBoundaryTests::join);
    terms("if that first STEP is EQUAL, it is THE JOIN at the same time: a ROW with that pair whose K it has, if there is any",
        TermsBoundaryTests::joinOfEqual);
    terms("The STEPS behind are done with ROWS that have a pair: EQUAL, LESS, MORE by its K", TermsBoundaryTests::byThePairsKey);
    terms("by DISTINCT, GROUP those of one pair go together, others not", TermsBoundaryTests::goTogether);
    terms("by UNION behind all others each pair comes as a ROW of its own, in order", TermsBoundaryTests::unionOfPairs);
    terms("By END there is an ANSWER (or an ERROR) for each pair, also for one with no ROWS", TermsBoundaryTests::pairsWithNoRows);
    terms("A HOST has the ANSWER of its pair", TermsBoundaryTests::answerOfPair);
    terms("the ERROR is at the first HOST whose pair has one", TermsBoundaryTests::firstHostWithError);
  }

  // ---- the log and the costs

  private static void opensInOrder() {
    asked("12", "", "", COUNT).dueLog(0, 0, 10).dueLog(1, 0, 10).due(1, "cost", 0, 3).due(1, "cost", 1, 3);
    Asked longest = asked("12", "", times(12, "l"), COUNT).due(13, "cost", 0, 3).due(14, "cost", 1, 3);
    longest.dueLog(0, 0, 2, 2, 2, 2, 2, 2, 2, 2, 2, 2, 2, 2, 12, 12, 12, 12, 12, 12, 12, 12, 12, 12, 12, 12, 10);
    longest.dueLog(1, 0, 8, 2, 2, 2, 2, 2, 2, 2, 2, 2, 2, 2, 2, 12, 12, 12, 12, 12, 12, 12, 12, 12, 12, 12, 12, 18, 10);
    asked("12", "", times(12, "e"), COUNT).due(13, "cost", 0, 3).due(13, "cost", 1, 3);
    asked("12", "", "dd", IN).dueLog(0, 0, 5, 5, 15, 15, 10).dueLog(1, 0, 5, 5, 8, 18, 15, 15, 10);
  }

  private static void allAreShut() {
    Asked x = asked("12;34", "", "de", COUNT).dueLog(0, 0, 5, 1, 11, 15, 10, 0, 5, 1, 11, 15, 10).dueLog(1, 0, 5, 9, 19, 15, 10);
    x.due(6, "cost", 0, 2).due(3, "cost", 1, 2).due(3, "cost", 0, 3).due(3, "cost", 1, 3);
    Asked error = asked("12;34;56", "31;32", "de", ONLY).due(1, "error", 0);
    error.dueLog(0, 0, 5, 1, 11, 15, 10, 0, 5, 1, 11, 15, 10).dueLog(1, 0, 5, 9, 19, 15, 10);
    Asked none = asked("", "31;32", "de", ONLY).dueLog(0).dueLog(1, 0, 5, 9, 19, 15, 10).due(0, "cost", 0, 3);
    for (Asked y : new Asked[] {x, error, none}) y.due(0, "cost", 0, 4).due(0, "cost", 1, 4);
  }

  private static void logNumbers() {
    Asked x = asked("12", "", "elmudgf1", COUNT);
    x.dueLog(0, 0, 1, 2, 3, 4, 5, 6, 7, 17, 16, 15, 14, 13, 12, 11, 10);
    x.dueLog(1, 0, 9, 2, 3, 4, 5, 6, 7, 17, 16, 15, 14, 13, 12, 19, 10);
    asked("12", "", "le", COUNT).dueLog(0, 0, 2, 1, 11, 12, 10).dueLog(1, 0, 8, 2, 1, 11, 12, 18, 10);
  }

  private static void firstTwoHundred() {
    // Ten hosts, each with what is opened and shut: 180, 200, 220 and 260 in all.
    asked(TEN, "", times(8, "e"), COUNT).due(10, "log", 0, 179).due(NONE, "log", 0, 180).due(NONE, "log", 0, 199).due(90, "cost", 0, 2);
    asked(TEN, "", times(9, "e"), COUNT).due(11, "log", 0, 198).due(10, "log", 0, 199).due(BAD, "log", 0, 200).due(100, "cost", 0, 2);
    Asked x = asked(TEN, "", times(10, "e"), COUNT).due(10, "log", 0, 197).due(0, "log", 0, 198).due(1, "log", 0, 199);
    x.due(BAD, "log", 0, 200).due(110, "cost", 0, 2).due(0, "cost", 0, 4);
    Asked y = asked(TEN, "", times(12, "e"), COUNT).due(11, "log", 0, 199).due(BAD, "log", 0, 200).due(130, "cost", 0, 2);
    y.due(13, "cost", 0, 3).due(0, "cost", 0, 4);
  }

  private static void asksOneByOne() {
    asked("12", "31;12;12", "e", EXISTS).dueCosts(0, 2, 2 + 1);
    asked("42", "51;12;12", "l", EXISTS).dueCosts(0, 2, 2 + 1);
    asked("12", "31;12;12", "m", EXISTS).dueCosts(0, 1, 1 + 1);
    asked("12", "31;15;15", "f5", EXISTS).dueCosts(0, 2, 2 + 1);
    asked("12", "31;31;15;15", "dd", ONLY).dueCosts(0, 3, 3 + 2 + 2);
    asked("12", "31;31;15;15", "eu", EXISTS).dueCosts(0, 3, 3 + 1 + 1);
    asked("12", "31;31;21", "eu", EXISTS).dueCosts(0, 3, 3 + 0 + 1);
    asked("12", "31;31;21", "ue", EXISTS).dueCosts(0, 3, 3 + 4 + 1);
    asked("12", "31;31;21", "uuu", ONLY).dueCosts(0, 2, 2 + 2 + 2 + 2);
    asked("12", "31", "uuu", ONLY).dueCosts(0, 1, 1 + 2 + 2 + 2);
  }

  private static void groupWaits() {
    asked("12", "31;32;43", "g", EXISTS).dueCosts(0, 3, 3 + 1);
    asked("12", "31;32;43", "g", ONLY).dueCosts(0, 3, 3 + 2);
    asked("12", "31;32;43", "g", COUNT).dueCosts(0, 3, 3 + 2).dueCosts(1, 3, 3 + 2);
    asked("12", "", "g", EXISTS).dueCosts(0, 0, 0).dueCosts(1, 0, 0);
    asked("12", "31;32;43", "ug", EXISTS).dueCosts(0, 3, 3 + 4 + 1);
    asked("12", "31;32;43", "gu", EXISTS).dueCosts(0, 3, 3 + 1 + 1);
    asked("12", "31;32;43", "gg", EXISTS).dueCosts(0, 3, 3 + 2 + 1);
  }

  private static void onlyStops() {
    int[] read = {0, 1, 2, 2, 2};
    for (int n = 0; n < 5; n++) {
      String inner = n == 0 ? "" : rows(n, "15");
      asked("12", inner, "", ONLY).dueCosts(0, read[n], read[n]).dueCosts(1, n, n);
      asked("12", inner, "e", ONLY).dueCosts(0, read[n], 2 * read[n]).dueCosts(1, n, 2 * n);
    }
    asked("12", "1-;1-;1-", "e", ONLY).dueCosts(0, 2, 4).dueCosts(1, 3, 6);
    asked("12", "15;11;16;17", "f5", ONLY).dueCosts(0, 3, 3 + 2).dueCosts(1, 4, 4 + 3);
    asked("12", "15;16", "u", ONLY).dueCosts(0, 2, 2 + 2);
    asked("12", "15", "u", ONLY).dueCosts(0, 1, 1 + 2);
    // Other ends ask for all.
    for (int end = 0; end < 9; end++) if (end < ONLY || end > EXISTS) asked("12", "12;12;12", "", end).due(3, "cost", 0, 0);
  }

  private static void existsStops() {
    int[] read = {0, 1, 1, 1};
    for (int n = 0; n < 4; n++) {
      String inner = n == 0 ? "" : rows(n, "15");
      asked("12;12", inner, "", EXISTS).dueCosts(0, 2 * read[n], 2 * read[n]).dueCosts(1, n, n);
      asked("12;12", inner, "e", EXISTS).dueCosts(0, 2 * read[n], 4 * read[n]).dueCosts(1, n, 2 * n);
    }
    asked("12", "1-;1-;1-", "e", EXISTS).dueCosts(0, 1, 2).dueCosts(1, 3, 6);
    asked("12", "31;32;15", "e", EXISTS).dueCosts(0, 3, 3 + 1);
    asked("12", "31;32;45", "e", EXISTS).dueCosts(0, 3, 3);
  }

  private static void freeAsksForAll() {
    for (int end = 0; end < 9; end++) {
      int joined = end >= IN ? 10 : 0;
      asked("12", rows(10, "15"), "", end).dueCosts(1, 10, 10 + joined);
      asked("12", rows(10, "15"), "e", end).dueCosts(1, 10, 10 + 10);
      asked("12", rows(10, "15"), "u", end).dueCosts(1, 10, 10 + 10 + 11);
      asked("", rows(10, "15"), "e", end).dueCosts(1, 10, 10);
    }
  }

  private static void handedOnAndRead() {
    // Nothing at all, one row, and the most rows through the most steps.
    asked("", "", "", COUNT).dueCosts(0, 0, 0).dueCosts(1, 0, 0);
    asked("12", "12", "", COUNT).dueCosts(0, 1, 1).dueCosts(1, 1, 1);
    asked(TEN, TEN, times(12, "m"), COUNT).dueCosts(0, 100, 1300).dueCosts(1, 10, 10 + 100 + 1200);
    int byHost = 10 + 11 + 12 + 13 + 14 + 15 + 16 + 17 + 18 + 19 + 20 + 21 + 22;
    asked(TEN, TEN, times(12, "u"), COUNT).dueCosts(0, 100, 10 * byHost).dueCosts(1, 10, 10 + 10 * byHost);
  }

  private static void spare() {
    asked("12", "34", "", COUNT).due(0, "spare");
    asked("", TEN, times(12, "e"), COUNT).due(4095, "spare");
    asked("12", "34;34", "dd", COUNT).due(3, "spare");
    asked("12", "34;34", "d", COUNT).due(0, "spare");
    asked("12", "34;35", times(11, "d") + "e", COUNT).due(2047, "spare");
    asked("12", "34;35", "e" + times(11, "d"), COUNT).due(4094, "spare");
    // The same ERROR, another one, none any more.
    asked("12;34", "11;12;35", "e", ONLY).due(1, "spare");
    asked("34;12", "11;12;35", "e", ONLY).due(0, "spare");
    asked("12", "34", "u", ONLY).due(0, "spare");
    asked("12", "34;34", "d", ONLY).due(0, "spare");
    // Averages are alike as bits, or not.
    asked("12", "11;11;13;13", "d", AVERAGE).due(1, "spare");
    asked("12", "10;10;11", "d", AVERAGE).due(0, "spare");
    asked("12", "1-;10", "f0", AVERAGE).due(1, "spare");
    asked("12", "1-", "f0", SUM).due(1, "spare");
    asked("12", "1-", "f0", COUNT).due(0, "spare");
  }

  private static void costs() {
    terms("A plan OPENS one after the other: INNER, then each STEP (by FREE also THE JOIN, if it is not EQUAL)", TermsBoundaryTests::opensInOrder);
    terms("all are SHUT, the last one first, when there is an ANSWER for the HOST (by FREE: for all), or an ERROR", TermsBoundaryTests::allAreShut);
    terms("8 THE JOIN (of EQUAL: 9); 10 more when it is SHUT", TermsBoundaryTests::logNumbers);
    terms("the first 200", TermsBoundaryTests::firstTwoHundred);
    terms("Each asks the one ahead for ROWS one by one, till there is none, and hands on each that it has at once, but UNION the HOST behind all others",
        TermsBoundaryTests::asksOneByOne);
    terms("GROUP all when there is none any more ahead", TermsBoundaryTests::groupWaits);
    terms("ROW BY ROW, by ONLY no more ROWS are asked for behind the second one", TermsBoundaryTests::onlyStops);
    terms("by EXISTS none behind the first one", TermsBoundaryTests::existsStops);
    terms("by FREE all are asked for, always", TermsBoundaryTests::freeAsksForAll);
    terms("HANDED ON is how often any of what is OPEN has handed on a ROW; READ how often INNER has", TermsBoundaryTests::handedOnAndRead);
    terms("SPARE are STEPS each of which alone might not be told, and all ANSWERS (or the ERROR) would be the same, as bits",
        TermsBoundaryTests::spare);
  }

  // ---- sheets, findings, refusals

  private static void lostOrARow() {
    Asked x = new Asked();
    for (int s = 0; s < 4; s++) x.due(NULL, "lose", s);
    for (int s = 0; s < 4; s++) for (int form = 0; form < 3; form++) {
      x.due(7, "sheet", s, form, 7);
      for (int other = 0; other < 3; other++) x.due(other == form ? 1 : CAST, "put", s, other, 6, 1);
    }
    for (int s = 0; s < 4; s++) x.due(7, "lose", s).due(NULL, "lose", s);
  }

  private static void itemsAtFirst() {
    for (int form = 0; form < 3; form++) for (int n : new int[] {0, 1, 59, 60}) {
      Asked x = new Asked().due(n, "sheet", 0, form, n);
      for (int i = 0; i < n; i++) x.due(0, "get", 0, form, i);
      x.due(0, "count", 8).due(INDEX, "put", 0, form, n, 1);
      for (int i = 0; i < n; i++) x.due(1, "put", 0, form, i, 99);
      // A new row's items are 0, whatever the row before it held, and whatever its form was.
      int next = (form + 1) % 3;
      x.due(60, "sheet", 0, next, 60);
      for (int i = 0; i < 60; i++) x.due(0, "get", 0, next, i);
      x.due(60, "lose", 0).due(60, "sheet", 0, form, 60);
      for (int i = 0; i < 60; i++) x.due(0, "get", 0, form, i);
    }
  }

  private static void nullFound() {
    Start[] starts = {Start.NEW, Start.ORDINARY, Start.FAULTY};
    for (Start start : starts) {
      refused(start, NULL, "lose", 3);
      refused(start, NULL, "put", 3, 0, 0, 1);
      refused(start, LEAST_INT, 1, "get", 3, 0, 0);
      refused(start, NULL, "copy", 3, 0, 3, 0, 0);
      refused(start, NULL, "write", 0, 3);
      refused(start, NULL, "write", 1, 3);
      refused(start, NULL, "read", 0, 3);
    }
  }

  private static void indexFound() {
    for (int i : new int[] {-1, 3, LEAST_INT, GREATEST_INT}) {
      refused(Start.ORDINARY, INDEX, "put", 0, 0, i, 1);
      refused(Start.ORDINARY, LEAST_INT, 2, "get", 0, 0, i);
    }
    for (int i : new int[] {-1, 60, LEAST_INT, GREATEST_INT}) {
      for (int s = 0; s < 4; s++) refused(Start.ALL_FULL, INDEX, "put", s, s % 3, i, 1);
      for (int s = 0; s < 4; s++) refused(Start.ALL_FULL, LEAST_INT, 2, "get", s, s % 3, i);
    }
    refused(Start.FAULTY, INDEX, "put", 0, 0, 0, 1);
    refused(Start.FAULTY, LEAST_INT, 2, "get", 2, 2, 0);
    refused(Start.FAULTY, INDEX, "copy", 0, 0, 0, 0, 1);
  }

  private static void castFound() {
    for (int s = 0; s < 3; s++) for (int form = 0; form < 3; form++) {
      if (s == form) continue;
      refused(Start.ORDINARY, CAST, "put", s, form, 0, 1);
      refused(Start.ORDINARY, LEAST_INT, 3, "get", s, form, 0);
      refused(Start.FAULTY, CAST, "put", s, form, 0, 1);
    }
  }

  private static void storeFound() {
    for (int s = 0; s < 3; s++) for (int t = 0; t < 3; t++) {
      if (s == t) continue;
      refused(Start.ORDINARY, STORE, "copy", s, 0, t, 0, 1);
      refused(Start.FAULTY, STORE, "copy", s, 0, t, 0, 0);
    }
    new Asked().sheet(0, 1, 5).sheet(1, 1, 6).due(1, "copy", 0, 0, 1, 0, 1).due(0, "count", 8);
  }

  private static void sizeFound() {
    for (Start start : Start.values()) for (int n : new int[] {-1, -60, LEAST_INT}) {
      refused(start, SIZE, "sheet", 0, 0, n);
      refused(start, SIZE, "sheet", 3, 2, n);
    }
    new Asked().due(0, "sheet", 0, 0, 0).due(0, "count", 8);
  }

  private static void latestFinding() {
    Asked x = new Asked().due(0, "count", 8).sheet(0, 0, 1).sheet(1, 1, 1);
    for (int again = 0; again < 2; again++) {
      x.due(NULL, "lose", 3).due(1, "count", 8);
      x.due(INDEX, "put", 0, 0, 1, 1).due(2, "count", 8);
      x.due(CAST, "put", 0, 1, 0, 1).due(3, "count", 8);
      x.due(STORE, "copy", 0, 0, 1, 0, 1).due(4, "count", 8);
      x.due(SIZE, "sheet", 0, 0, -1).due(5, "count", 8);
    }
    // What goes well, and other refusals, are no findings.
    x.due(1, "put", 0, 0, 0, 1).due(BAD, "put", 9, 0, 0, 1).due(NOT, "undo", 0).due(LEAST_INT, "get", 4, 0, 0).due(5, "count", 8);
  }

  private static void firstThatFits() {
    for (Start start : Start.values()) {
      refused(start, BAD, "type", 3, 256);
      refused(start, BAD, "type", -1, 0);
      refused(start, BAD, "sheet", 4, 0, -1);
      refused(start, BAD, "sheet", 0, 3, -1);
      refused(start, BAD, "sheet", 0, 3, 61);
      refused(start, BAD, "copy", 4, -1, 3, -1, -1);
      refused(start, BAD, "copy", 3, -1, 4, -1, -1);
      refused(start, BAD, "put", 3, 3, -1, 1);
      refused(start, LEAST_INT, 0, "get", 3, 3, -1);
      refused(start, BAD, "write", 2, 3);
      refused(start, BAD, "read", 3, 3);
    }
    refused(Start.ALL_FULL, BAD, "type", 0, 256);
    refused(Start.NEW, BAD, "undo", 3);
    refused(Start.IN_ERROR, BAD, "answer", 0, 3);
    refused(Start.IN_ERROR, BAD, "answer", 2, 0);
    refused(Start.NEW, BAD, "domain", 0, 2);
    refused(Start.ORDINARY, NULL, "put", 3, 2, -1, 1);
    refused(Start.ORDINARY, LEAST_INT, 1, "get", 3, 2, -1);
    refused(Start.ORDINARY, CAST, "put", 0, 2, -1, 1);
    refused(Start.ORDINARY, LEAST_INT, 3, "get", 0, 2, 60);
    refused(Start.ORDINARY, NULL, "copy", 0, -1, 3, -1, -1);
    refused(Start.ORDINARY, NULL, "copy", 3, -1, 0, -1, -1);
    refused(Start.ORDINARY, STORE, "copy", 0, -1, 1, -1, -1);
    refused(Start.IN_ERROR, NULL, "write", 0, 2);
    refused(Start.IN_ERROR, NOT, "write", 0, 3);
  }

  /** Each kind of refusal, one behind another; the last one is a finding, INDEX or NULL. */
  private static Asked refusedOften(Asked x) {
    x.due(BAD, "type", 3, 0).due(BAD, "type", 0, 256).due(BAD, "wipe", -1).due(BAD, "undo", 3).due(BAD, "end", 9).due(BAD, "sheet", 0, 0, 61);
    x.due(BAD, "lose", 4).due(BAD, "put", 0, 3, 0, 1).due(BAD, "copy", 0, 0, 4, 0, 0).due(BAD, "write", 2, 0).due(BAD, "read", 0, 4);
    x.due(BAD, "error", 2).due(BAD, "answer", 0, 10).due(BAD, "domain", 10, 0).due(BAD, "plan", 20).due(BAD, "log", 0, 200).due(BAD, "count", 9);
    x.due(LEAST_INT, "get", 4, 0, 0).due(SIZE, "sheet", 0, 0, -1).due(5, "count", 8);
    long last = x.call("put", 0, 2, -1, 9);
    return x.due(-10 - last, "count", 8);
  }

  private static void changeNothing() {
    for (Start start : Start.values()) {
      dueAlike("refused often from " + start, start::get, () -> refusedOften(start.get()), 0, 1, 2, 3, 4, 5, 6, 7, 8);
    }
  }

  private static void sheets() {
    terms("SHEETS 0 .. 3 are LOST (at first) or a row of a FORM: 0 bytes, 1 shorts, 2 ints", TermsBoundaryTests::lostOrARow);
    terms("of 0 to 60 items (0 at first)", TermsBoundaryTests::itemsAtFirst);
    terms("1 NULL: the SHEET is LOST", TermsBoundaryTests::nullFound);
    terms("2 INDEX: there is no such item", TermsBoundaryTests::indexFound);
    terms("3 CAST: it has another FORM", TermsBoundaryTests::castFound);
    terms("4 STORE: unlike FORMS", TermsBoundaryTests::storeFound);
    terms("5 SIZE: below 0", TermsBoundaryTests::sizeFound);
    terms("FINDINGS (answers -10 less the number; they change nothing but count() 8)", TermsBoundaryTests::latestFinding);
    terms("Refusals, the first that fits, in the order told at each act: BAD -2 (a number not as told, no such thing), NULL, NOT -3 (as told), FULL -4, other FINDINGS",
        TermsBoundaryTests::firstThatFits);
    terms("They change nothing (FINDINGS but count() 8)", TermsBoundaryTests::changeNothing);
  }

  public static void main(String[] args) {
    texts();
    steps();
    answers();
    free();
    costs();
    sheets();
    finish();
  }
}
