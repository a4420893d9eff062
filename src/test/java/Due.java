/** Counts and prints the answers that are not as due. */
final class Due {
  private static int wrong = 0;
  private static int asked = 0;

  private Due() {
  }

  static void is(String call, long got, long want) {
    asked++;
    if (got == want) return;
    wrong++;
    if (wrong <= 40) System.out.println(call + " answered " + got + ", due is " + want);
  }

  static void same(String what, String got, String want) {
    is(what, got.equals(want) ? 0 : 1, 0);
    if (!got.equals(want) && wrong <= 40) System.out.println("is:\n" + got + "due is:\n" + want);
  }

  static int wrongSoFar() {
    return wrong;
  }

  static void end() {
    System.out.println(asked + " answers, " + wrong + " of them not as due");
    if (wrong != 0) System.exit(1);
  }

  /** Feeds a text and tells what office() answers. */
  static int office(InTraysPurgatory x, String text) {
    for (int i = 0; i < text.length(); i++) {
      x.feed(text.charAt(i));
    }
    return x.office();
  }

  /** A new object with an office told in letters. */
  static InTraysPurgatory with(String text) {
    InTraysPurgatory x = new InTraysPurgatory();
    if (office(x, text) < 1) throw new IllegalArgumentException("no office: " + text);
    return x;
  }

  static void row(InTraysPurgatory x, int... numbers) {
    x.clear();
    for (int v : numbers) {
      x.row(v);
    }
  }
}
