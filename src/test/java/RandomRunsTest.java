import java.lang.reflect.Method;
import java.util.Arrays;
import java.util.HashMap;
import java.util.Map;
import java.util.Random;

/** Runs of calls by lot, each answer held against the Model's. */
public final class RandomRunsTest {
  private static final int RUNS = 1500;
  private static final int CALLS = 160;
  private static final Map<String, Method> FACE = new HashMap<>();

  private final Random lot;
  private final InTraysPurgatory built = new InTraysPurgatory();
  private final Model model = new Model();
  private final StringBuilder told = new StringBuilder();
  private int calls;
  private boolean heavy;

  private RandomRunsTest(long seed) {
    lot = new Random(seed);
  }

  public static void main(String[] args) throws ReflectiveOperationException {
    for (Method m : InTraysPurgatory.class.getDeclaredMethods()) {
      if (java.lang.reflect.Modifier.isPublic(m.getModifiers())) FACE.put(m.getName(), m);
    }
    Due.is("methods of the face", FACE.size(), 43);
    for (int run = 0; run < RUNS && Due.wrongSoFar() == 0; run++) {
      new RandomRunsTest(run).run(run);
    }
    Due.end();
  }

  private void run(int run) throws ReflectiveOperationException {
    String[] names = FACE.keySet().toArray(new String[0]);
    Arrays.sort(names);
    heavy = run % 3 > 0;
    if (heavy || lot.nextBoolean()) tell(text());
    if (heavy) fill();
    while (calls < CALLS && Due.wrongSoFar() == 0) {
      int what = lot.nextInt(40);
      if (what == 0) tell(text());
      else if (what < 4) tellRow();
      else if (what < 6) ask("sheet", lot.nextInt(6), lot.nextInt(10), lot.nextInt(4));
      else if (what == 6) ask("days", 1 + lot.nextInt(lot.nextInt(8) > 0 ? 2 : 60));
      else if (what == 7) ask("sets", lot.nextInt(4), lot.nextInt(3), lot.nextInt(12));
      else if (what == 8) ask("restore");
      else askOne(names[lot.nextInt(names.length)]);
    }
    for (int i = -1; i <= 17; i++) ask("count", i);
    if (Due.wrongSoFar() > 0) System.out.println("run " + run + ":\n" + told);
  }

  /** An office of little mercy and much that weighs, kept in an image, so that it is come back to. */
  private void fill() throws ReflectiveOperationException {
    int mercy = 1 + lot.nextInt(8);
    for (int o = 0; o < 4; o++) {
      ask("sets", o, 1, lot.nextInt(mercy));
      ask("sets", o, 0, 1 + lot.nextInt(2));
      ask("sets", o, 2, lot.nextInt(10));
    }
    int bully = lot.nextInt(9);
    int least = lot.nextInt(9);
    while (built.count(0) < 9) {
      ask("sheet", lot.nextInt(9) < bully ? 4 : lot.nextInt(6), least + lot.nextInt(10 - least), lot.nextInt(4));
    }
    ask("image");
  }

  private void ask(String name, int... a) throws ReflectiveOperationException {
    Object[] boxed = new Object[a.length];
    for (int i = 0; i < a.length; i++) boxed[i] = a[i];
    long got = ((Number) FACE.get(name).invoke(built, boxed)).longValue();
    String call = name + Arrays.toString(a);
    told.append(call).append(" = ").append(got).append('\n');
    calls++;
    Due.is(call, got, model.call(name, a));
  }

  private void askOne(String name) throws ReflectiveOperationException {
    int[] a = new int[FACE.get(name).getParameterCount()];
    boolean fair = lot.nextInt(6) > 0;
    int[] below = belows(name);
    for (int i = 0; i < a.length; i++) a[i] = fair ? lot.nextInt(below[i]) : number();
    if (fair && name.equals("trolley")) a[0]--;
    if (fair && name.equals("rounds")) a[0]--;
    if (fair && name.equals("holidays")) a[3] += 2;
    if (fair && name.equals("lots")) a[1] = lot.nextInt();
    if (name.equals("days") && heavy) a[0] = a[0] % 3;
    ask(name, a);
  }

  /** Numbers above all that a call takes without refusal. */
  private static int[] belows(String name) {
    switch (name) {
      case "feed": return new int[] {256};
      case "officialOf": return new int[] {4, 5};
      case "sheetOf": return new int[] {9, 8};
      case "sheet": return new int[] {6, 10, 4};
      case "sets": return new int[] {4, 3, 10};
      case "moves": return new int[] {9, 4};
      case "behind": return new int[] {9, 61, 3};
      case "then": return new int[] {4, 61, 3};
      case "signed": case "bestTray": case "which": return new int[] {9, 2};
      case "wanted": return new int[] {4, 61, 2};
      case "whose": return new int[] {4, 3};
      case "two": return new int[] {4, 4};
      case "holidays": return new int[] {4, 9, 7, 19, 2};
      case "queue": return new int[] {4, 9};
      case "busy": return new int[] {4, 61};
      case "passed": case "days": return new int[] {61};
      case "lots": return new int[] {21, 1, 2};
      case "all": case "fair": return new int[] {3};
      case "heaviest": case "fullest": case "longest": case "average": return new int[] {2};
      case "top": case "judge": return new int[] {4};
      case "trolley": return new int[] {6};
      case "rounds": return new int[] {10};
      case "count": return new int[] {18};
      case "row": return new int[] {100};
      default: return new int[] {9};
    }
  }

  /** Mostly small numbers, and now and then one at an edge. */
  private int number() {
    int[] edges = {-1, -2, 4, 5, 6, 7, 9, 10, 11, 12, 20, 21, 30, 31, 60, 61, 99, 100, 255, 256, 999, 1000,
        Integer.MIN_VALUE, Integer.MAX_VALUE};
    switch (lot.nextInt(12)) {
      case 0: return edges[lot.nextInt(edges.length)];
      case 1: return lot.nextInt(62) - 1;
      case 2: return lot.nextInt(22) - 1;
      case 3: return lot.nextInt(9);
      default: return lot.nextInt(3);
    }
  }

  private void tell(String text) throws ReflectiveOperationException {
    for (int i = 0; i < text.length(); i++) ask("feed", text.charAt(i));
    if (lot.nextInt(20) > 0) ask("office");
  }

  private String text() {
    StringBuilder b = new StringBuilder();
    int statements = lot.nextInt(10) == 0 ? 30 : lot.nextInt(8);
    for (int i = 0; i < statements; i++) b.append(statement());
    if (lot.nextInt(8) == 0 && b.length() > 0) b.setCharAt(lot.nextInt(b.length()), "sormd;059x".charAt(lot.nextInt(10)));
    if (lot.nextInt(12) == 0 && b.length() > 0) b.setLength(lot.nextInt(b.length()));
    return b.toString();
  }

  private String statement() {
    int official = below(4, 5);
    switch (lot.nextInt(9)) {
      case 0: return String.format("o%d%d%02d;", official, 1 + lot.nextInt(3), below(20, 34));
      case 1: return String.format("r%d%d;", official, lot.nextInt(10));
      case 2: return String.format("m%d;", lot.nextInt(3));
      case 3: return String.format("d%02d;", lot.nextInt(20) == 0 ? lot.nextInt(70) : 1 + lot.nextInt(3));
      default: return String.format("s%d%d%d;", below(6, 7), lot.nextInt(10), official);
    }
  }

  private int below(int usual, int seldom) {
    return lot.nextInt(lot.nextInt(25) == 0 ? seldom : usual);
  }

  /** A row that tells how it will be, or how it lies, with now and then a number wrong. */
  private void tellRow() throws ReflectiveOperationException {
    ask("clear");
    int length = lot.nextInt(8);
    int kind = lot.nextInt(3);
    int official = lot.nextInt(4);
    int sheet = lot.nextInt(9);
    for (int i = 0; i < length; i++) {
      int v = kind == 0 ? built.then(official, i, 1) : kind == 1 ? built.behind(sheet, i, 0) : inTray(official, i);
      if (kind < 2) model.call(kind == 0 ? "then" : "behind", kind == 0 ? official : sheet, i, kind == 0 ? 1 : 0);
      if (lot.nextInt(25) == 0) v = lot.nextInt(10);
      ask("row", v < 0 ? 9 : v);
    }
    if (kind == 0) ask("whose", official, lot.nextInt(3));
    if (kind == 1) ask("which", sheet, lot.nextInt(2));
    if (kind == 2 || lot.nextBoolean()) ask("judge", official);
  }

  private int inTray(int official, int place) throws ReflectiveOperationException {
    for (int s = 0; s < 9; s++) {
      int tray = built.behind(s, 0, 0);
      int at = built.behind(s, 0, 1);
      model.call("behind", s, 0, 0);
      model.call("behind", s, 0, 1);
      if (tray == official && at == place) return s;
    }
    return 8;
  }
}
