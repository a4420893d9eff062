/** Edges of what the terms say of kinds and of a day, seen by promises 4, 5 and 10. */
public final class EdgesOfTermsTest {
  private static final String MERCIFUL = "o0130;o1130;o2130;o3130;";

  public static void main(String[] args) {
    weights();
    parts();
    borneAtLeastNought();
    rings();
    minutesAtMost();
    willing();
    haste();
    pace();
    round();
    carbon();
    whatLayThere();
    Due.end();
  }

  private static void weights() {
    int[][] weights = {{3, 4, 5, 6, 7, 8, 9, 10, 11, 12}, {7, 8, 9, 10, 11, 12, 13, 14, 15, 16},
        {1, 2, 2, 3, 3, 4, 4, 5, 5, 6}, {6, 8, 10, 12, 14, 16, 18, 20, 22, 24}, {7, 9, 11, 13, 15, 17, 19, 21, 23, 25},
        {0, 0, 0, 0, 0, 0, 0, 0, 0, 0}};
    for (int kind = 0; kind < 6; kind++) {
      for (int figure = 0; figure < 10; figure++) {
        InTraysPurgatory x = new InTraysPurgatory();
        x.sheet(kind, figure, 0);
        Due.is("5: weight of kind " + kind + ", figure " + figure, x.sheetOf(0, 5), weights[kind][figure]);
        Due.is("22: that of kind " + kind + ", figure " + figure, x.heaviest(1), weights[kind][figure]);
      }
    }
  }

  private static void parts() {
    int[][] parts = {{1, 1, 1, 2, 2, 2, 3, 3, 3, 4}, {2, 2, 3, 3, 3, 4, 4, 4, 5, 5}, {0, 0, 0, 1, 1, 1, 1, 1, 1, 2},
        {2, 2, 3, 4, 4, 5, 6, 6, 7, 8}, {7, 9, 11, 13, 15, 17, 19, 21, 23, 25}, {-1, -1, -1, -1, -1, -1, -1, -1, -1, -1}};
    for (int kind = 0; kind < 6; kind++) {
      for (int figure = 0; figure < 10; figure++) {
        InTraysPurgatory x = Due.with(MERCIFUL + "s090;d01;");
        x.sheet(kind, figure, 0);
        x.days(1);
        Due.is("10: part of kind " + kind + ", figure " + figure, x.officialOf(0, 2), 4 + parts[kind][figure]);
      }
    }
  }

  /** A SAINT bears 1 less, where BORNE is 2, 1 and 0. */
  private static void borneAtLeastNought() {
    Rows.hold(new InTraysPurgatory(), """
        3: tell(o0530;s100;s500;s500;s500;) = 5
        4: officialOf(0, 2) = 0
        10: days(1) = 4
        4: officialOf(0, 2) = 0 2 less 3, but 0 at least
        6: sheet(0, 0, 0) = 4
        10: days(1) = 5
        4: officialOf(0, 2) = 1 from 0 on
        """);
    Rows.hold(new InTraysPurgatory(), """
        3: tell(s100;o0130;d01;s500;d01;) = 5
        4: officialOf(0, 2) = 1 2 less 1
        6: sheet(5, 9, 0) = 2
        10: days(1) = 3
        4: officialOf(0, 2) = 0 1 less 1
        6: sheet(5, 9, 0) = 3
        10: days(1) = 4
        4: officialOf(0, 2) = 0 at least
        """);
  }

  /** In the tray of 3 a sheet is passed on once, of 2 twice, of 1 three times and of 0 four times on the first day. */
  private static void rings() {
    int[][] rings = {{1, 2, 3, 4}, {1, 2, 3, 4}, {1, 2, 3, 4}, {0, 0, 0, 0}, {0, 1, 1, 2}};
    for (int kind = 0; kind < 5; kind++) {
      for (int times = 1; times <= 4; times++) {
        InTraysPurgatory x = Due.with(Clock.NO_MERCY);
        x.sheet(kind, 9, 4 - times);
        Due.is("5: rings at first", x.sheetOf(0, 6), 0);
        x.days(1);
        Due.is("5: minutes", x.sheetOf(0, 4), kind == 3 ? 1 : times);
        Due.is("5: rings of kind " + kind + ", passed on " + times + " times", x.sheetOf(0, 6), rings[kind][times - 1]);
      }
    }
  }

  private static void minutesAtMost() {
    Rows.hold(new InTraysPurgatory(), """
        3: tell(s390;d60;d38;) = 3
        5: sheetOf(0, 4) = 98
        12: behind(0, 1, 2) = 99
        12: behind(0, 2, 2) = 99
        10: days(1) = 0
        5: sheetOf(0, 4) = 99
        29: longest(1) = 99
        44: count(6) = 99
        10: days(1) = 0
        5: sheetOf(0, 4) = 99 at most
        34: average(0) = 99
        """);
  }

  /** MERCY one less than the load, as much, and one more: at first, and as it was passed on once. */
  private static void willing() {
    int[] loads = {12, 16, 6, 24, 25};
    int[] loadsThen = {11, 15, 5, 24, 25};
    for (int kind = 0; kind < 5; kind++) {
      for (int more = -1; more <= 1; more++) {
        InTraysPurgatory x = Due.with(Clock.NO_MERCY);
        x.sheet(kind, 9, 3);
        x.sets(3, 1, loads[kind] + more);
        Due.is("19: who, kind " + kind + " and " + more, x.who(0), more < 0 ? 0 : 8);
        Due.is("10: willing, kind " + kind + " and " + more, x.days(1), more < 0 ? 0 : 1);
        InTraysPurgatory then = Due.with(Clock.NO_MERCY);
        then.sheet(kind, 9, 3);
        then.days(1);
        then.moves(0, 0);
        then.sets(0, 1, loadsThen[kind] + more);
        Due.is("19: who, passed on, kind " + kind + " and " + more, then.who(0), more < 0 ? 0 : 1);
        Due.is("10: willing, passed on, kind " + kind + " and " + more, then.days(1), more < 0 ? 0 : 1);
      }
    }
    Due.is("10: for a SAINT no mercy is needed", Due.with(Clock.NO_MERCY + "s593;").days(1), 1);
  }

  /** Each two of kinds, the one ahead and the other behind: who is taken first. */
  private static void haste() {
    int[] haste = {0, 2, 1, 0, 1, 1};
    for (int one = 0; one < 6; one++) {
      for (int other = 0; other < 6; other++) {
        InTraysPurgatory x = Due.with(MERCIFUL);
        x.sheet(one, 0, 0);
        x.sheet(other, 0, 0);
        int first = haste[other] > haste[one] ? 1 : 0;
        Due.is("5: haste", x.sheetOf(0, 7), haste[one]);
        Due.is("30: top of kinds " + one + ", " + other, x.top(0), first);
        Due.is("31: queue of kinds " + one + ", " + other, x.queue(0, 1), 1 - first);
        x.days(1);
        Due.is("10: taken first of kinds " + one + ", " + other, x.count(3), 1 << first);
      }
    }
  }

  /** A pace of 1, 2 and 5, with as many sheets, with one less and with one more. */
  private static void pace() {
    for (int pace = 1; pace <= 5; pace++) {
      for (int more = -1; more <= 1; more++) {
        InTraysPurgatory x = new InTraysPurgatory();
        x.sets(0, 0, pace);
        for (int i = 0; i < pace + more; i++) x.sheet(0, 0, 0);
        Due.is("10: pace " + pace + " of " + (pace + more), x.days(1), Math.min(pace, pace + more));
      }
    }
  }

  /** Passed on from 2 to 3, and from 3 to 0; the next one takes it on the same day, but 0 on the next. */
  private static void round() {
    int[] next = {1, 2, 3, 0};
    for (int o = 0; o < 4; o++) {
      InTraysPurgatory x = Due.with(MERCIFUL);
      x.sets(o, 1, 0);
      x.sheet(0, 9, o);
      Due.is("10: passed on from " + o, x.days(1), o == 3 ? 0 : 1);
      Due.is("10: round", x.sheetOf(0, 3), next[o]);
      Due.is("10: minutes", x.sheetOf(0, 4), 1);
      Due.is("10: a day later", x.days(1), 1);
      Due.is("14: by the next", x.signed(0, 1), next[o]);
    }
  }

  /** A CARBON stays with each of them, behind all there, and is not taken twice on a day. */
  private static void carbon() {
    for (int o = 0; o < 4; o++) {
      InTraysPurgatory x = Due.with(Clock.NO_MERCY);
      x.sets(o, 0, 5);
      x.sheet(3, 0, o);
      x.sheet(3, 0, o);
      x.sets(o, 0, 1);
      x.days(1);
      Due.is("10: his own", x.sheetOf(0, 3), o);
      Due.is("10: behind all", x.behind(0, 0, 1), 1);
      Due.is("10: the other is not taken", x.sheetOf(1, 4), 0);
      x.sets(o, 0, 3);
      x.days(1);
      Due.is("10: once a day", x.sheetOf(0, 4), 2);
      Due.is("10: once a day", x.sheetOf(1, 4), 1);
    }
  }

  /** What comes to a tray ahead of its official's turn is taken, what he puts there himself is not. */
  private static void whatLayThere() {
    Rows.hold(Due.with("o0100;o1500;s000;s391;"), """
        10: days(1) = 1 sheet 0 is passed on by 0 and 1, and signed by 2
        5: sheetOf(0, 3) = 2
        5: sheetOf(0, 4) = 2
        5: sheetOf(1, 3) = 1
        5: sheetOf(1, 4) = 1 once, though 1 could take three more
        36: busy(1, 1) = 1
        """);
  }
}
