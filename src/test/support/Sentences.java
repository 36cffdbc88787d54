import java.lang.reflect.InvocationTargetException;
import java.lang.reflect.Method;
import java.util.ArrayList;
import java.util.Arrays;
import java.util.HashMap;
import java.util.List;
import java.util.Map;
import java.util.function.Supplier;

/**
 * What the tests by sentences share. A test bears the number of a promise (or 'Terms') and words of
 * the document; an object is never called more than 512 times, because later answers are free.
 */
class Sentences {
  static final int NONE = -1, BAD = -2, NOT = -3, FULL = -4;
  static final int NULL = -11, INDEX = -12, CAST = -13, STORE = -14, SIZE = -15;
  static final int COUNT = 0, SUM = 1, LEAST = 2, GREATEST = 3, AVERAGE = 4, ONLY = 5, EXISTS = 6, IN = 7, NOT_IN = 8;
  static final int LEAST_INT = Integer.MIN_VALUE, GREATEST_INT = Integer.MAX_VALUE;
  static final int MOST_CALLS = 512;
  static final int[] ROOM = {29, 29, 12};
  /** Ten rows, which are as many bytes as a table may have. */
  static final String TEN = "09;18;27;36;45;54;63;72;81;90";

  private static final Map<String, Method> FACE = new HashMap<>();

  static {
    for (Method m : UnnestPlans.class.getMethods()) FACE.put(m.getName(), m);
  }

  private static String sentence = "";
  private static int sentences = 0, broken = 0, wrong = 0, answers = 0;

  Sentences() {}

  // ---- sentences

  static void sentence(String where, String words, Runnable test) {
    sentence = where + ", \"" + words + "\"";
    sentences++;
    int before = wrong, asked = answers;
    try {
      test.run();
    } catch (RuntimeException e) {
      wrong("threw " + e);
    }
    if (answers == asked) wrong("nothing was asked");
    if (wrong > before) broken++;
  }

  static void finish() {
    System.out.println(sentences + " sentences, " + answers + " answers, " + broken + " sentences do not hold");
    if (broken != 0) System.exit(1);
  }

  static void wrong(String what) {
    wrong++;
    System.out.println(sentence + ": " + what);
  }

  static void due(String call, long got, long want) {
    answers++;
    if (got != want) wrong(call + " answered " + got + ", due is " + want);
  }

  // ---- objects and their calls

  static final class Asked {
    private final UnnestPlans x = new UnnestPlans();
    private int calls = 0;

    long call(String name, int... args) {
      calls++;
      if (calls > MOST_CALLS) throw new IllegalStateException("more than 512 calls of one object");
      Object[] boxed = new Object[args.length];
      for (int i = 0; i < args.length; i++) boxed[i] = args[i];
      try {
        return ((Number) FACE.get(name).invoke(x, boxed)).longValue();
      } catch (InvocationTargetException e) {
        wrong(text(name, args) + " threw " + e.getCause());
        return Long.MIN_VALUE;
      } catch (ReflectiveOperationException e) {
        throw new IllegalStateException(e);
      }
    }

    Asked due(long want, String name, int... args) {
      Sentences.due(text(name, args), call(name, args), want);
      return this;
    }

    /** Types what there is room for; nothing of it is told here. */
    Asked type(int text, String s) {
      for (int i = 0; i < s.length(); i++) call("type", text, s.charAt(i));
      return this;
    }

    Asked sheet(int s, int form, int... items) {
      call("sheet", s, form, items.length);
      for (int i = 0; i < items.length; i++) if (items[i] != 0) call("put", s, form, i, items[i]);
      return this;
    }

    Asked dueItems(int s, int form, int... want) {
      for (int i = 0; i < want.length; i++) due(want[i], "get", s, form, i);
      return this;
    }

    Asked dueAnswers(int plan, int... want) {
      due(want.length, "count", 0);
      for (int host = 0; host < want.length; host++) due(want[host], "answer", plan, host);
      return this;
    }

    Asked duePlan(int... want) {
      for (int i = 0; i < 20; i++) due(i < want.length ? want[i] : NONE, "plan", i);
      return this;
    }

    Asked dueLog(int plan, int... want) {
      for (int i = 0; i < want.length; i++) due(want[i], "log", plan, i);
      if (want.length < 200) due(NONE, "log", plan, want.length);
      return this;
    }

    /** READ and HANDED ON. */
    Asked dueCosts(int plan, int read, int handedOn) {
      return due(read, "cost", plan, 0).due(handedOn, "cost", plan, 1);
    }

    Asked dueDomain(int... want) {
      due(want.length / 2, "domain", NONE, 0);
      for (int i = 0; i < 20; i++) due(i < want.length ? want[i] : NOT, "domain", i / 2, i % 2);
      return this;
    }
  }

  static String text(String name, int... args) {
    StringBuilder b = new StringBuilder(name).append('(');
    for (int i = 0; i < args.length; i++) b.append(i > 0 ? ", " : "").append(args[i]);
    return b.append(')').toString();
  }

  static Asked asked(String outer, String inner, String steps, int end) {
    Asked x = new Asked().type(0, outer).type(1, inner).type(2, steps);
    x.call("end", end);
    return x;
  }

  static void dueAnswers(String outer, String inner, String steps, int end, int... want) {
    asked(outer, inner, steps, end).dueAnswers(0, want).dueAnswers(1, want).due(1, "same");
  }

  static int bits(float f) {
    return Float.floatToIntBits(f);
  }

  static String times(int n, String s) {
    return s.repeat(n);
  }

  static String rows(int n, String row) {
    return String.join(";", java.util.Collections.nCopies(n, row));
  }

  // ---- what all calls tell

  /** The parts of what can be told of an object; each is asked of an object of its own. */
  static final int PARTS = 9;
  private static final int QUESTION = 0, MARKS = 1, LOGS = 2, SHEETS = 4, UNDOING = 8;

  static long[] told(Asked x, int part) {
    List<Long> all = new ArrayList<>();
    if (part == QUESTION) tellQuestion(x, all);
    else if (part == MARKS) tellMarks(x, all);
    else if (part < SHEETS) for (int i = 0; i < 200; i++) all.add(x.call("log", part - LOGS, i));
    else if (part < UNDOING) tellSheet(x, part - SHEETS, all);
    else for (int text = 0; text < 3; text++) tellBytes(x, text, all);
    return all.stream().mapToLong(Long::longValue).toArray();
  }

  private static void tellQuestion(Asked x, List<Long> all) {
    for (int what = 0; what < 8; what++) if (what != 4) all.add(x.call("count", what));
    for (int i = 0; i < 22; i++) for (int what = 0; what < 2; what++) all.add(x.call("row", i / 11, i % 11, what));
    for (int i = 0; i < 24; i++) all.add(x.call("step", i / 2, i % 2));
    for (int plan = 0; plan < 2; plan++) {
      all.add(x.call("error", plan));
      for (int host = 0; host < 10; host++) all.add(x.call("answer", plan, host));
      for (int what = 0; what < 5; what++) all.add(x.call("cost", plan, what));
    }
    for (String name : new String[] {"same", "total", "speaks", "spare"}) all.add(x.call(name));
    for (int i = -1; i < 10; i++) for (int what = 0; what < 2; what++) all.add(x.call("domain", i, what));
    for (int i = 0; i < 20; i++) all.add(x.call("plan", i));
  }

  private static void tellMarks(Asked x, List<Long> all) {
    for (int text = 0; text < 3; text++) all.add(x.call("fault", text));
    all.add(x.call("count", 4));
    all.add(x.call("digest"));
  }

  private static void tellSheet(Asked x, int s, List<Long> all) {
    // There is no item -1, so from here on the latest finding is one of this sheet.
    all.add(x.call("get", s, 0, -1));
    for (int form = 0; form < 3; form++) for (int i = 0; i <= 60; i++) {
      all.add(x.call("get", s, form, i));
      if (i % 60 == 0) all.add(x.call("count", 8));
    }
    all.add(x.call("lose", s));
  }

  private static void tellBytes(Asked x, int text, List<Long> all) {
    long left = x.call("undo", text);
    for (int n = 0; n < 30 && left >= 0; n++) {
      all.add(left);
      all.add(x.call("fault", text));
      for (int what = 0; what < 2; what++) {
        all.add(text == 2 ? x.call("step", (int) left - 1, what) : x.call("row", text, (int) left / 3, what));
      }
      left = x.call("undo", text);
    }
  }

  // ---- refusals

  /** Where a refused call may come: new, no texts, ordinary, all full, all texts with a FAULT, an ERROR. */
  enum Start {
    NEW(Asked::new),
    NO_TEXTS(Sentences::noTexts),
    ORDINARY(Sentences::ordinary),
    ALL_FULL(Sentences::allFull),
    FAULTY(Sentences::faulty),
    IN_ERROR(Sentences::inError);

    private final Supplier<Asked> made;
    private final long[][] asBefore = new long[PARTS][];
    private final long finding;

    Start(Supplier<Asked> made) {
      this.made = made;
      for (int part = 0; part < PARTS; part++) asBefore[part] = told(made.get(), part);
      finding = made.get().call("count", 8);
    }

    Asked get() {
      return made.get();
    }
  }

  /** The END is another one than at first, sheets 0 of bytes, 1 of shorts, 2, 3 of ints; the latest finding is STORE. */
  private static Asked noTexts() {
    Asked x = asked("", "", "", IN).sheet(0, 0, '1', '2').sheet(1, 1, '3', '4').sheet(2, 2, 'e', 'd').sheet(3, 2, 300);
    x.call("copy", 0, 0, 1, 0, 1);
    return x;
  }

  /** Sheets 0 of 3 bytes, 1 of 2 shorts, 2 of 4 ints, 3 lost; the latest finding is SIZE. */
  private static Asked ordinary() {
    Asked x = asked("12;3-;-4;12", "13;1-;32;-1;05", "eudf1", SUM);
    x.sheet(0, 0, '1', -128, 127).sheet(1, 1, -32768, 32767).sheet(2, 2, LEAST_INT, 5, -1, GREATEST_INT);
    x.call("sheet", 3, 0, -1);
    return x;
  }

  /** All sheets of 60 items, 0 and 3 of bytes, 1 of shorts, 2 of ints; the latest finding is CAST. */
  private static Asked allFull() {
    Asked x = asked(TEN, "19;28;37;4-;-5;11;22;33;44;55", "lmudguf3uuuu", NOT_IN);
    for (int s = 0; s < 4; s++) {
      x.call("sheet", s, s % 3, 60);
      for (int i = 0; i < 60; i += 59) x.call("put", s, s % 3, i, 49 + s);
    }
    x.call("put", 0, 1, 0, 0);
    return x;
  }

  /** Sheets 0, 1, 2 of no items of their form, 3 lost; the latest finding is NULL. */
  private static Asked faulty() {
    Asked x = asked("12;", "1x", "ef", AVERAGE).sheet(0, 0).sheet(1, 1).sheet(2, 2);
    x.call("lose", 3);
    return x;
  }

  /** An ERROR at host 1; sheets 0, 1 of 5 ints, 2 lost, 3 of 5 shorts; the latest finding is INDEX. */
  private static Asked inError() {
    Asked x = asked("10;20;21", "20;21;22", "e", ONLY);
    x.sheet(0, 2, 1, 2, 3, 4, 5).sheet(1, 2, 6, 7, 8, 9, 10).sheet(3, 1, 1, 2, 3, 4, 5);
    x.call("put", 0, 2, 5, 1);
    return x;
  }

  /** It answers so, and all that is told afterwards is as before, but count(8) where it is a finding. */
  static void refused(Start start, long answer, int finding, String name, int... args) {
    String behind = " behind " + text(name, args) + " from " + start;
    Asked x = start.get();
    due(text(name, args) + " from " + start, x.call(name, args), answer);
    due("count(8)" + behind, x.call("count", 8), finding == 0 ? start.finding : finding);
    for (int part = 0; part < PARTS; part++) {
      Asked y = start.get();
      y.call(name, args);
      answers++;
      if (!Arrays.equals(told(y, part), start.asBefore[part])) wrong("part " + part + " of what is told is not as before" + behind);
    }
  }

  static void refused(Start start, long answer, String name, int... args) {
    refused(start, answer, answer <= NULL && answer >= SIZE ? (int) (-10 - answer) : 0, name, args);
  }

  /** BAD comes first in every call, so it is told wherever the call comes. */
  static void bad(String name, int... args) {
    for (Start start : Start.values()) refused(start, name.equals("get") ? LEAST_INT : BAD, 0, name, args);
  }

  /** BAD of one number of a call: one below the least, one above the greatest, and the ints' ends. */
  static void badAround(int least, int greatest, int place, String name, int... args) {
    for (int n : new int[] {least - 1, greatest + 1, LEAST_INT, GREATEST_INT}) {
      int[] with = args.clone();
      with[place] = n;
      bad(name, with);
    }
  }

  /** Whether two ways to an object tell the same of one part. */
  static void dueAlike(String what, Supplier<Asked> one, Supplier<Asked> other, int... parts) {
    for (int part : parts) {
      answers++;
      if (!Arrays.equals(told(one.get(), part), told(other.get(), part))) wrong(what + ": part " + part + " of what is told is not alike");
    }
  }
}
