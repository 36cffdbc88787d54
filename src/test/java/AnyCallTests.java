import java.lang.reflect.Array;

/**
 * Any call with any numbers: none throws, and texts and sheets are as a second reading of the
 * document with Java's own byte[], short[] and int[] has them (promises 2 to 5, 19 to 25).
 */
public final class AnyCallTests {
  private static int wrong = 0;
  private static long seed = 5;

  private static int pick(int n) {
    seed = seed * 6364136223846793005L + 1442695040888963407L;
    return (int) ((seed >>> 33) % n);
  }

  private static final int[] EDGES = {-1, -2, -3, 3, 4, 9, 10, 19, 20, 59, 60, 61, 199, 200, 255, 256, Integer.MIN_VALUE, Integer.MAX_VALUE};

  private static int number(int most) {
    return pick(12) == 0 ? EDGES[pick(EDGES.length)] : pick(most);
  }

  private static void due(String call, long got, long want) {
    if (got != want) {
      wrong++;
      if (wrong <= 40) System.out.println(call + " answered " + got + ", due is " + want);
    }
  }

  static final class Model {
    final StringBuilder[] texts = {new StringBuilder(), new StringBuilder(), new StringBuilder()};
    final Object[] sheets = new Object[4];
    int finding = 0;

    static boolean in(int i, int n) { return 0 <= i && i < n; }
    int found(int number) { finding = number; return -10 - number; }
    int most(int text) { return text == 2 ? 12 : 29; }
    int form(int s) { return sheets[s] instanceof byte[] ? 0 : sheets[s] instanceof short[] ? 1 : 2; }

    void set(int s, int i, int v) {
      if (sheets[s] instanceof byte[] b) b[i] = (byte) v;
      else if (sheets[s] instanceof short[] b) b[i] = (short) v;
      else ((int[]) sheets[s])[i] = v;
    }

    int type(int text, int b) {
      if (!in(text, 3) || !in(b, 256)) return -2;
      if (texts[text].length() == most(text)) return -4;
      return texts[text].append((char) b).length();
    }

    int wipe(int text) {
      if (!in(text, 3)) return -2;
      int had = texts[text].length();
      texts[text].setLength(0);
      return had;
    }

    int undo(int text) {
      if (!in(text, 3)) return -2;
      if (texts[text].isEmpty()) return -3;
      texts[text].setLength(texts[text].length() - 1);
      return texts[text].length();
    }

    int sheet(int s, int form, int n) {
      if (!in(s, 4) || !in(form, 3) || n > 60) return -2;
      if (n < 0) return found(5);
      sheets[s] = form == 0 ? new byte[n] : form == 1 ? new short[n] : new int[n];
      return n;
    }

    int lose(int s) {
      if (!in(s, 4)) return -2;
      if (sheets[s] == null) return found(1);
      int had = Array.getLength(sheets[s]);
      sheets[s] = null;
      return had;
    }

    int finding(int s, int form, int i) {
      if (sheets[s] == null) return 1;
      if (form(s) != form) return 3;
      return in(i, Array.getLength(sheets[s])) ? 0 : 2;
    }

    int put(int s, int form, int i, int v) {
      if (!in(s, 4) || !in(form, 3)) return -2;
      if (finding(s, form, i) != 0) return found(finding(s, form, i));
      set(s, i, v);
      return 1;
    }

    int get(int s, int form, int i) {
      if (!in(s, 4) || !in(form, 3)) return Integer.MIN_VALUE;
      if (finding(s, form, i) != 0) { found(finding(s, form, i)); return Integer.MIN_VALUE; }
      return Array.getInt(sheets[s], i);
    }

    int copy(int s, int i, int t, int j, int n) {
      if (!in(s, 4) || !in(t, 4)) return -2;
      if (sheets[s] == null || sheets[t] == null) return found(1);
      if (form(s) != form(t)) return found(4);
      try {
        System.arraycopy(sheets[s], i, sheets[t], j, n);
      } catch (IndexOutOfBoundsException e) {
        return found(2);
      }
      return 1;
    }

    int write(UnnestPlans x, int plan, int s) {
      if (!in(plan, 2) || !in(s, 4)) return -2;
      if (sheets[s] == null) return found(1);
      if (x.error(plan) != -1) return -3;
      int n = Math.min(x.count(0), Array.getLength(sheets[s]));
      for (int i = 0; i < n; i++) set(s, i, x.answer(plan, i));
      return n;
    }

    int read(int text, int s) {
      if (!in(text, 3) || !in(s, 4)) return -2;
      if (sheets[s] == null) return found(1);
      int n = 0;
      while (n < Array.getLength(sheets[s]) && type(text, Array.getInt(sheets[s], n)) > 0) n++;
      return n;
    }
  }

  private static int likelyByte(int text) {
    return pick(30) == 0 ? number(256) : (text == 2 ? "elmudgf1" : "0123-;").charAt(pick(text == 2 ? 8 : 6));
  }

  private static void change(UnnestPlans x, Model m) {
    int a = number(4), b = number(3), c = number(20), d = number(300), e = number(20);
    switch (pick(13)) {
      case 0, 1, 2, 3 -> { int t = number(3), v = likelyByte(t); due("type(" + t + ", " + v + ")", x.type(t, v), m.type(t, v)); }
      case 4 -> { if (pick(10) == 0) due("wipe(" + b + ")", x.wipe(b), m.wipe(b)); }
      case 5 -> due("undo(" + b + ")", x.undo(b), m.undo(b));
      case 6 -> due("sheet(" + a + ", " + b + ", " + c + ")", x.sheet(a, b, c), m.sheet(a, b, c));
      case 7 -> { if (pick(4) == 0) due("lose(" + a + ")", x.lose(a), m.lose(a)); }
      case 8 -> due("put(" + a + ", " + b + ", " + c + ", " + d + ")", x.put(a, b, c, d), m.put(a, b, c, d));
      case 9 -> due("get(" + a + ", " + b + ", " + c + ")", x.get(a, b, c), m.get(a, b, c));
      case 10 -> { int t = number(4), n = number(12);
        due("copy(" + a + ", " + c + ", " + t + ", " + e + ", " + n + ")", x.copy(a, c, t, e, n), m.copy(a, c, t, e, n)); }
      case 11 -> { int p = number(2); due("write(" + p + ", " + a + ")", x.write(p, a), m.write(x, p, a)); }
      default -> { if (pick(3) == 0) due("read(" + b + ", " + a + ")", x.read(b, a), m.read(b, a)); }
    }
  }

  private static void ask(UnnestPlans x, Model m) {
    int a = number(3), b = number(10), c = number(3);
    switch (pick(16)) {
      case 0 -> x.end(number(9));
      case 1 -> x.fault(a);
      case 2 -> x.row(a, b, c);
      case 3 -> x.step(b, c);
      case 4 -> x.error(a);
      case 5 -> x.answer(a, b);
      case 6 -> due("same()", x.same(), 1);
      case 7 -> x.total();
      case 8 -> x.speaks();
      case 9 -> x.domain(b, c);
      case 10 -> x.plan(number(20));
      case 11 -> due("cost(" + (a & 1) + ", 4)", x.cost(a & 1, 4), 0);
      case 12 -> x.log(a, number(200));
      case 13 -> x.spare();
      case 14 -> due("count(8)", x.count(8), m.finding);
      default -> due("count(4)", x.count(4), m.texts[0].length() + m.texts[1].length() + m.texts[2].length());
    }
  }

  private static void dueSheets(UnnestPlans x, Model m) {
    for (int s = 0; s < 4; s++) for (int f = 0; f < 3; f++) for (int i = -1; i < 61; i++) {
      due("get(" + s + ", " + f + ", " + i + ")", x.get(s, f, i), m.get(s, f, i));
      due("count(8)", x.count(8), m.finding);
    }
  }

  /** Bytes that were read, undone and wiped must stand as if they alone had been typed. */
  private static void dueTexts(UnnestPlans x, Model m) {
    UnnestPlans y = new UnnestPlans();
    for (int t = 0; t < 3; t++) for (int i = 0; i < m.texts[t].length(); i++) y.type(t, m.texts[t].charAt(i));
    y.end(x.count(3));
    due("digest()", x.digest(), y.digest());
    for (int t = 0; t < 3; t++) for (int i = m.texts[t].length(); i > 0; i--) {
      due("undo(" + t + ")", x.undo(t), y.undo(t));
      due("fault(" + t + ")", x.fault(t), y.fault(t));
    }
  }

  public static void main(String[] args) {
    for (int run = 0; run < 1500; run++) {
      UnnestPlans x = new UnnestPlans();
      Model m = new Model();
      for (int i = 0; i < 512; i++) {
        if (pick(4) == 0) ask(x, m);
        else change(x, m);
      }
      dueSheets(x, m);
      dueTexts(x, m);
    }
    System.out.println(wrong == 0 ? "any calls: all answers are as due" : wrong + " answers are not as due");
    if (wrong != 0) System.exit(1);
  }
}
