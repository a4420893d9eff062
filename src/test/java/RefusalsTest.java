import java.util.function.Supplier;

/**
 * Refusals, call by call: which number, which of several comes first, and that nothing changes but how many there were.
 * Beside them the FAULTS of office(), and that calls that only ask change nothing.
 */
public final class RefusalsTest {
  public static void main(String[] args) {
    Rows.hold(amid(), SCENE_AMID);
    Rows.hold(full(), SCENE_FULL);
    refused(RefusalsTest::amid, REFUSED_BY_CHANGES);
    refused(RefusalsTest::amid, REFUSED_BY_QUESTIONS);
    refused(RefusalsTest::amid, REFUSED_BY_CHOICES);
    refused(RefusalsTest::full, REFUSED_WHEN_FULL);
    refused(InTraysPurgatory::new, REFUSED_WHEN_NEW);
    asked(RefusalsTest::amid, ASKED);
    asked(RefusalsTest::full, ASKED);
    asked(InTraysPurgatory::new, ASKED_WHEN_NEW);
    askedAgain(RefusalsTest::amid);
    askedAgain(RefusalsTest::full);
    faults();
    Due.end();
  }

  /** Sheets 0, 3 and 4 WAIT, 1 is SIGNED, 2 MISLAID; two changes can be taken back; there is an image. */
  private static InTraysPurgatory amid() {
    InTraysPurgatory x = Due.with("o0207;o1103;o2309;o3102;r17;s391;s000;s212;s492;s193;m2;d01;");
    x.image();
    x.sets(1, 2, 3);
    x.moves(0, 0);
    Due.row(x, 4, 0);
    for (int letter : new int[] {'m', '3', ';'}) x.feed(letter);
    return x;
  }

  /** 9 sheets, 96 letters, 12 numbers in the row, 8 changes to be taken back, DAY 999. */
  private static InTraysPurgatory full() {
    InTraysPurgatory x = new InTraysPurgatory();
    for (int i = 0; i < 16; i++) x.days(60);
    x.days(39);
    for (int s = 0; s < 9; s++) x.sheet(s % 6, s, 0);
    x.image();
    for (int i = 0; i < 8; i++) x.sets(i % 4, i % 2, i % 2 + 1);
    Due.row(x, 0, 1, 2, 3, 4, 5, 6, 7, 8, 0, 0, 99);
    for (int i = 0; i < 96; i++) x.feed("r12;".charAt(i % 4));
    return x;
  }

  /** Each row on an object of its own, held against another one that did not get the call. */
  private static void refused(Supplier<InTraysPurgatory> scene, String rows) {
    for (String row : rows.strip().split("\n")) {
      InTraysPurgatory x = scene.get();
      int[] due = Witness.refusals(x);
      long answer = Rows.answer(x, row);
      Due.is(row, answer, Rows.due(row));
      int refusal = refusalOf(Rows.due(row));
      due[refusal]++;
      int[] counts = Witness.refusals(x);
      for (int r = 1; r <= 6; r++) Due.is(row + ", and 44: refusals -" + r, counts[r], due[r]);
      Due.same(row + ", nothing changes: wrong", Witness.whole(x), Witness.whole(scene.get()));
    }
  }

  /** A refusal without its sign, from 1 to 6; heaviest() and the longs tell it in their own way. */
  private static int refusalOf(long answer) {
    if (answer < 0) return (int) -answer;
    return (int) (answer < 4000000000000000000L ? answer - 1000000000 : answer - 4000000000000000000L);
  }

  private static void asked(Supplier<InTraysPurgatory> scene, String rows) {
    for (String row : rows.strip().split("\n")) {
      InTraysPurgatory x = scene.get();
      int[] before = Witness.refusals(x);
      Rows.answer(x, row + " = 0");
      int[] counts = Witness.refusals(x);
      for (int r = 1; r <= 6; r++) Due.is(row + ", asked, and 44: refusals -" + r, counts[r], before[r]);
      Due.same(row + ", asked, nothing changes: wrong", Witness.whole(x), Witness.whole(scene.get()));
    }
  }

  /** Behind any one question all the others are answered as on a new object. */
  private static void askedAgain(Supplier<InTraysPurgatory> scene) {
    String[] rows = ASKED.strip().split("\n");
    for (String row : rows) {
      InTraysPurgatory x = scene.get();
      Rows.answer(x, row + " = 0");
      for (String other : rows) {
        long due = Rows.answer(scene.get(), other + " = 0");
        Due.is(other + ", behind " + row, Rows.answer(x, other + " = 0"), due);
      }
    }
  }

  /** A FAULT takes the letters away, is not counted, and nothing of what its text tells comes. */
  private static void faults() {
    String[] texts = {"", "x", "s009", "s000;m0;d01;x", "s000;o0300;r39;m3;d01;s004;", "m3;m3;m3;m1;", "d60;d00;", "r00;s600;"};
    int[] due = {-1000, -1000, -1004, -1012, -2022, -2009, -2004, -2004};
    for (int i = 0; i < texts.length; i++) {
      InTraysPurgatory x = amid();
      InTraysPurgatory other = amid();
      x.office();
      other.office();
      x.sets(0, 0, 5);
      other.sets(0, 0, 5);
      int[] before = Witness.refusals(x);
      Due.is("3: " + texts[i], Due.office(x, texts[i]), due[i]);
      int[] counts = Witness.refusals(x);
      for (int r = 1; r <= 6; r++) Due.is("3: a FAULT is not counted, -" + r, counts[r], before[r]);
      Due.same("3: a FAULT changes nothing, " + texts[i] + ": wrong", Witness.whole(x), Witness.whole(other));
    }
  }

  private static final String SCENE_AMID = """
      44: count(2) = 25
      44: count(3) = 2
      44: count(4) = 4
      44: count(9) = 2
      39: judge(0) = -9
      3: office() = 1
      43: restore() = 1
      """;

  private static final String SCENE_FULL = """
      44: count(0) = 9
      44: count(1) = 999
      44: count(7) = 96
      44: count(8) = 12
      44: count(9) = 8
      39: judge(0) = 9
      3: office() = 24
      43: restore() = 999
      """;

  private static final String REFUSED_BY_CHANGES = """
      2: feed(-1) = -4
      2: feed(-2147483648) = -4
      2: feed(256) = -6
      2: feed(2147483647) = -6
      4: officialOf(-1, 0) = -1
      4: officialOf(4, 0) = -1
      4: officialOf(0, -1) = -2
      4: officialOf(3, 5) = -2
      4: officialOf(4, 5) = -1 nobody ahead of other
      5: sheetOf(-1, 0) = -1
      5: sheetOf(5, 0) = -1
      5: sheetOf(9, 0) = -1
      5: sheetOf(0, -1) = -2
      5: sheetOf(4, 8) = -2
      5: sheetOf(5, 8) = -1 nobody ahead of other
      6: sheet(-1, 0, 0) = -2
      6: sheet(6, 0, 0) = -2
      6: sheet(0, -1, 0) = -4
      6: sheet(0, 10, 0) = -6
      6: sheet(0, 0, -1) = -1
      6: sheet(0, 0, 4) = -1
      6: sheet(6, -1, 4) = -2 other ahead of below
      6: sheet(-1, 10, 4) = -2 other ahead of above
      6: sheet(6, 0, 4) = -2 other ahead of nobody
      6: sheet(5, -1, 4) = -4 below ahead of nobody
      6: sheet(5, 10, -1) = -6 above ahead of nobody
      7: sets(-1, 0, 1) = -1
      7: sets(4, 0, 1) = -1
      7: sets(0, -1, 1) = -2
      7: sets(0, 3, 1) = -2
      7: sets(0, 0, 0) = -4
      7: sets(0, 0, -2147483648) = -4
      7: sets(0, 0, 6) = -6
      7: sets(3, 1, -1) = -4
      7: sets(3, 1, 31) = -6
      7: sets(3, 2, -1) = -4
      7: sets(3, 2, 10) = -6
      7: sets(3, 2, 2147483647) = -6
      7: sets(4, 3, 0) = -1 nobody ahead of other
      7: sets(4, 0, 0) = -1 nobody ahead of below
      7: sets(4, 0, 6) = -1 nobody ahead of above
      7: sets(3, 3, -1) = -2 other ahead of below
      7: sets(3, 3, 31) = -2 other ahead of above
      8: mislays(-1) = -1
      8: mislays(5) = -1
      8: mislays(1) = -3 SIGNED
      9: moves(-1, 0) = -1
      9: moves(5, 0) = -1
      9: moves(0, -1) = -1
      9: moves(0, 4) = -1
      9: moves(1, 0) = -3 SIGNED
      9: moves(2, 0) = -3 MISLAID
      9: moves(1, 4) = -1 nobody ahead of state
      9: moves(2, -1) = -1 nobody ahead of state
      10: days(0) = -4
      10: days(-1) = -4
      10: days(-2147483648) = -4
      10: days(61) = -6
      10: days(2147483647) = -6
      38: row(-1) = -4
      38: row(-2147483648) = -4
      38: row(100) = -6
      38: row(2147483647) = -6
      39: judge(-1) = -1
      39: judge(4) = -1
      """;

  private static final String REFUSED_BY_QUESTIONS = """
      12: behind(-1, 0, 0) = -1
      12: behind(5, 0, 0) = -1
      12: behind(0, -1, 0) = -4
      12: behind(0, -2147483648, 0) = -4
      12: behind(0, 61, 0) = -6
      12: behind(0, 2147483647, 0) = -6
      12: behind(0, 60, -1) = -2
      12: behind(4, 0, 3) = -2
      12: behind(5, -1, 3) = -1 nobody ahead of below
      12: behind(5, 61, 3) = -1 nobody ahead of above
      12: behind(5, 0, 3) = -1 nobody ahead of other
      12: behind(0, -1, 3) = -4 below ahead of other
      12: behind(0, 61, 3) = -6 above ahead of other
      13: then(-1, 0, 0) = -1
      13: then(4, 0, 0) = -1
      13: then(0, -1, 0) = -4
      13: then(0, 61, 0) = -6
      13: then(0, 0, -1) = -2
      13: then(3, 60, 3) = -2
      13: then(4, -1, 3) = -1 nobody ahead of below
      13: then(4, 61, 3) = -1 nobody ahead of above
      13: then(4, 0, 3) = -1 nobody ahead of other
      13: then(0, -1, 3) = -4 below ahead of other
      13: then(0, 61, 3) = -6 above ahead of other
      14: signed(-1, 0) = -1
      14: signed(5, 0) = -1
      14: signed(0, -1) = -2
      14: signed(4, 2) = -2
      14: signed(5, 2) = -1 nobody ahead of other
      15: all(-1) = -2
      15: all(3) = -2
      16: bestTray(-1, 0) = -1
      16: bestTray(5, 0) = -1
      16: bestTray(0, -1) = -2
      16: bestTray(0, 2) = -2
      16: bestTray(1, 0) = -3 SIGNED
      16: bestTray(2, 1) = -3 MISLAID
      16: bestTray(5, 2) = -1 nobody ahead of other
      16: bestTray(1, 2) = -2 other ahead of state
      18: wanted(-1, 0, 0) = -1
      18: wanted(4, 0, 0) = -1
      18: wanted(0, -1, 0) = -4
      18: wanted(0, 61, 1) = -6
      18: wanted(0, 0, -1) = -2
      18: wanted(3, 60, 2) = -2
      18: wanted(4, -1, 2) = -1 nobody ahead of below
      18: wanted(4, 61, 2) = -1 nobody ahead of above
      18: wanted(4, 0, 2) = -1 nobody ahead of other
      18: wanted(0, -1, 2) = -4 below ahead of other
      18: wanted(0, 61, 2) = -6 above ahead of other
      19: who(-1) = -1
      19: who(5) = -1
      20: rounds(-2) = -1
      20: rounds(5) = -1
      20: rounds(-2147483648) = -1
      36: busy(-1, 0) = -1
      36: busy(4, 0) = -1
      36: busy(0, -1) = -4
      36: busy(0, 61) = -6
      36: busy(4, -1) = -1 nobody ahead of below
      36: busy(4, 61) = -1 nobody ahead of above
      37: passed(-1) = -4
      37: passed(-2147483648) = -4
      37: passed(61) = -6
      37: passed(2147483647) = -6
      """;

  private static final String REFUSED_BY_CHOICES = """
      21: fair(-1) = -2
      21: fair(3) = -2
      22: heaviest(-1) = 1000000002
      22: heaviest(2) = 1000000002
      23: whose(-1, 0) = -1
      23: whose(4, 0) = -1
      23: whose(0, -1) = -2
      23: whose(3, 3) = -2
      23: whose(4, 3) = -1 nobody ahead of other
      24: which(-1, 0) = -1
      24: which(5, 0) = -1
      24: which(0, -1) = -2
      24: which(4, 2) = -2
      24: which(5, 2) = -1 nobody ahead of other
      25: trolley(-2) = -4
      25: trolley(-2147483648) = -4
      26: two(-1, 0) = -1
      26: two(4, 0) = -1
      26: two(0, -1) = -1
      26: two(0, 4) = -1
      26: two(0, 0) = -1 one twice
      26: two(3, 3) = -1 one twice
      27: holidays(-1, 0, 0, 2, 0) = 4000000000000000001
      27: holidays(4, 0, 0, 2, 0) = 4000000000000000001
      27: holidays(0, -1, 0, 2, 0) = 4000000000000000001
      27: holidays(0, 5, 0, 2, 0) = 4000000000000000001
      27: holidays(0, 0, -1, 2, 0) = 4000000000000000004
      27: holidays(0, 0, 0, 1, 0) = 4000000000000000004
      27: holidays(0, 0, 0, 0, 0) = 4000000000000000004
      27: holidays(0, 0, 0, -2147483648, 0) = 4000000000000000004
      27: holidays(0, 0, 7, 2, 0) = 4000000000000000006
      27: holidays(0, 0, 2147483647, 2, 0) = 4000000000000000006
      27: holidays(0, 0, 6, 21, 0) = 4000000000000000006
      27: holidays(0, 0, 6, 20, -1) = 4000000000000000002
      27: holidays(3, 4, 0, 2, 2) = 4000000000000000002
      27: holidays(4, 0, -1, 2, 0) = 4000000000000000001 nobody ahead of below
      27: holidays(0, 5, 7, 21, 2) = 4000000000000000001 nobody ahead of above and other
      27: holidays(0, 0, -1, 21, 2) = 4000000000000000004 below ahead of above and other
      27: holidays(0, 0, 7, 1, 2) = 4000000000000000004 below ahead of above and other
      27: holidays(0, 0, 7, 2, 2) = 4000000000000000006 above ahead of other
      27: holidays(0, 0, 0, 21, 2) = 4000000000000000006 above ahead of other
      28: fullest(-1) = -2
      28: fullest(2) = -2
      29: longest(-1) = -2
      29: longest(2) = -2
      30: top(-1) = -1
      30: top(4) = -1
      31: queue(-1, 0) = -1
      31: queue(4, 0) = -1
      31: queue(0, -1) = -1
      31: queue(0, 5) = -1
      34: average(-1) = 4000000000000000002
      34: average(2) = 4000000000000000002
      41: lots(0, 0, 0) = -4
      41: lots(-2147483648, 0, 0) = -4
      41: lots(21, 0, 0) = -6
      41: lots(2147483647, 0, 0) = -6
      41: lots(1, 0, -1) = -2
      41: lots(20, 0, 2) = -2
      41: lots(0, 0, 2) = -4 below ahead of other
      41: lots(21, 0, 2) = -6 above ahead of other
      """;

  private static final String REFUSED_WHEN_FULL = """
      2: feed(0) = -6 96 there are
      2: feed(255) = -6 96 there are
      2: feed(256) = -6
      2: feed(-1) = -4 below ahead of no room
      5: sheetOf(9, 0) = -1
      6: sheet(0, 0, 0) = -6 9 there are
      6: sheet(5, 9, 3) = -6 9 there are
      6: sheet(6, 0, 0) = -2 other ahead of no room
      6: sheet(0, -1, 0) = -4 below ahead of no room
      6: sheet(0, 0, 4) = -6 no room ahead of nobody
      8: mislays(9) = -1
      9: moves(9, 0) = -1
      10: days(1) = -6 DAY above 999
      10: days(60) = -6 DAY above 999
      10: days(0) = -4
      12: behind(9, 0, 0) = -1
      14: signed(9, 0) = -1
      16: bestTray(9, 0) = -1
      19: who(9) = -1
      20: rounds(9) = -1
      24: which(9, 0) = -1
      27: holidays(0, 9, 0, 2, 0) = 4000000000000000001
      31: queue(0, 9) = -1
      38: row(0) = -6 12 there are
      38: row(99) = -6 12 there are
      38: row(100) = -6
      38: row(-1) = -4 below ahead of no room
      """;

  private static final String REFUSED_WHEN_NEW = """
      5: sheetOf(0, 0) = -1
      8: mislays(0) = -1
      9: moves(0, 0) = -1
      11: back() = -3 none
      12: behind(0, 0, 0) = -1
      14: signed(0, 0) = -1
      16: bestTray(0, 0) = -1
      19: who(0) = -1
      20: rounds(0) = -1
      24: which(0, 0) = -1
      27: holidays(0, 0, 0, 2, 0) = 4000000000000000001
      31: queue(0, 0) = -1
      43: restore() = -3 there is none
      """;

  private static final String ASKED = """
      4: officialOf(0, 0)
      5: sheetOf(0, 0)
      12: behind(0, 60, 0)
      13: then(0, 60, 0)
      14: signed(0, 0)
      15: all(0)
      15: all(1)
      15: all(2)
      16: bestTray(0, 0)
      17: up()
      18: wanted(0, 60, 0)
      18: wanted(0, 60, 1)
      19: who(0)
      20: rounds(-1)
      20: rounds(0)
      21: fair(0)
      22: heaviest(0)
      22: heaviest(1)
      23: whose(0, 0)
      23: whose(0, 1)
      23: whose(0, 2)
      24: which(0, 0)
      24: which(0, 1)
      25: trolley(-1)
      25: trolley(0)
      25: trolley(4)
      26: two(0, 1)
      27: holidays(0, 0, 6, 20, 0)
      28: fullest(0)
      29: longest(0)
      30: top(0)
      31: queue(0, 0)
      31: queue(3, 0)
      32: clerk()
      33: light()
      34: average(0)
      35: same()
      36: busy(0, 60)
      37: passed(60)
      41: lots(20, 1, 0)
      41: lots(20, 1, 1)
      44: count(-1)
      44: count(10)
      44: count(17)
      """;

  private static final String ASKED_WHEN_NEW = """
      15: all(0)
      15: all(1)
      17: up()
      18: wanted(0, 60, 0)
      20: rounds(-1)
      22: heaviest(0)
      22: heaviest(1)
      23: whose(0, 1)
      25: trolley(-1)
      25: trolley(0)
      29: longest(1)
      30: top(0)
      32: clerk()
      33: light()
      34: average(1)
      39: judge(0)
      40: clear()
      41: lots(20, 1, 0)
      44: count(2)
      """;
}
