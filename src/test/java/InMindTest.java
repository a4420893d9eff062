/** Promises 12 to 20, 32, 33 and 35 to 37: what is so some days on, if nothing else comes. */
public final class InMindTest {
  /** Sheet 0 is signed by 0 on day 1; sheet 1 is passed on 3, 4 and no times, and signed by 0 on day 3. */
  private static final String TWO_SHEETS = "s000;s091;";
  /** A CARBON that nobody signs. */
  private static final String HEAVY = "s391;";
  /** Three sheets that go round and take 39 days to be signed, each day one of them going round. */
  private static final String ROUND = "o0100;o1100;o2100;o3100;s490;s490;s490;";

  /** Seven sheets, each gone round in its turn, of which each is signed in its ninth: on the days 57, 58 and so on. */
  private static final String SEVEN =
      "o0109;o1109;o2109;o3109;s490;s490;s490;s490;s490;s490;s490;";

  public static void main(String[] args) {
    behind();
    then();
    signed();
    all();
    bestTray();
    up();
    wanted();
    who();
    rounds();
    clerk();
    light();
    same();
    busy();
    passed();
    nothingChanges();
    Due.end();
  }

  private static void behind() {
    InTraysPurgatory x = Due.with(TWO_SHEETS);
    int[][] due = {{1, 0, 0}, {0, 0, 3}, {0, 0, 7}, {-9, -9, 7}};
    for (int n = 0; n < 4; n++) {
      for (int what = 0; what < 3; what++) Due.is("12: behind " + n + " " + what, x.behind(1, n, what), due[n][what]);
    }
    Due.is("12: behind 60", x.behind(1, 60, 2), 7);
    Due.is("12: nobody", x.behind(2, -1, 3), -1);
    Due.is("12: nobody", x.behind(-1, 0, 0), -1);
    Due.is("12: below", x.behind(0, -1, 3), -4);
    Due.is("12: above", x.behind(0, 61, 3), -6);
    Due.is("12: other", x.behind(0, 60, 3), -2);
    Due.is("12: other", x.behind(0, 0, -1), -2);
    InTraysPurgatory mislaid = Due.with("s092;m0;");
    Due.is("12: mislaid", mislaid.behind(0, 3, 0), -9);
    Due.is("12: mislaid", mislaid.behind(0, 3, 1), -9);
    Due.is("12: mislaid", mislaid.behind(0, 3, 2), 0);
    InTraysPurgatory place = Due.with("s000;s000;s000;");
    for (int n = 0; n < 3; n++) Due.is("12: place", place.behind(2, n, 1), 2 - n);
  }

  private static void then() {
    InTraysPurgatory x = Due.with(TWO_SHEETS);
    int[][] due = {{0, 1, 0}, {1, 1, 1}, {1, 1, 1}, {5, 0, 2}};
    for (int n = 0; n < 4; n++) {
      for (int what = 0; what < 3; what++) Due.is("13: then " + n + " " + what, x.then(0, n, what), due[n][what]);
    }
    Due.is("13: nobody", x.then(4, -1, 3), -1);
    Due.is("13: nobody", x.then(-1, 0, 0), -1);
    Due.is("13: below", x.then(0, -1, 3), -4);
    Due.is("13: above", x.then(0, 61, 3), -6);
    Due.is("13: other", x.then(0, 60, 3), -2);
    Due.is("13: other", x.then(0, 0, -1), -2);
  }

  private static void signed() {
    InTraysPurgatory two = Due.with(TWO_SHEETS);
    Due.is("14: by", two.signed(1, 1), 0);
    Due.is("14: when", two.signed(1, 0), 3);
    InTraysPurgatory seven = Due.with(SEVEN);
    Due.is("14: on day 60", seven.signed(3, 0), 60);
    Due.is("14: on day 60 by", seven.signed(3, 1), 0);
    Due.is("14: not within 60 days", seven.signed(4, 0), -9);
    Due.is("14: not within 60 days by", seven.signed(4, 1), -9);
    Due.is("15: not within 60 days", seven.all(2), 112);
    InTraysPurgatory x = Due.with("s000;s391;s000;m2;");
    Due.is("14: first", x.signed(0, 0), 1);
    Due.is("14: by", x.signed(0, 1), 0);
    for (int s = 1; s < 3; s++) {
      Due.is("14: never", x.signed(s, 0), -9);
      Due.is("14: by nobody", x.signed(s, 1), -9);
    }
    x.days(1);
    Due.is("14: now", x.signed(0, 0), 0);
    Due.is("14: by", x.signed(0, 1), 0);
    Due.is("14: nobody", x.signed(3, 2), -1);
    Due.is("14: nobody", x.signed(-1, 0), -1);
    Due.is("14: other", x.signed(0, 2), -2);
    Due.is("14: other", x.signed(0, -1), -2);
  }

  private static void all() {
    InTraysPurgatory x = Due.with(TWO_SHEETS);
    Due.is("15: first", x.all(0), 0);
    Due.is("15: empty", x.all(1), 3);
    Due.is("15: never", x.all(2), 0);
    x.days(1);
    Due.is("15: first not signed now", x.all(0), 1);
    Due.is("15: empty", x.all(1), 2);
    x.days(2);
    Due.is("15: none", x.all(0), -9);
    Due.is("15: empty now", x.all(1), 0);
    Due.is("15: other", x.all(3), -2);
    Due.is("15: other", x.all(-1), -2);
    InTraysPurgatory least = Due.with("s090;s002;s001;s391;s000;m4;");
    Due.is("15: the least of a day", least.all(0), 1);
    Due.is("15: not empty", least.all(1), -9);
    Due.is("15: never", least.all(2), 8);
    InTraysPurgatory mislaid = Due.with("s000;m0;");
    Due.is("15: the mislaid is not first", mislaid.all(0), -9);
    Due.is("15: the mislaid does not wait", mislaid.all(1), 0);
    Due.is("15: nor is it one that waits", mislaid.all(2), 0);
    // each of five is taken every fifth day, and signed as it is taken for the 13th time
    InTraysPurgatory five = Due.with(ROUND + "s490;s490;");
    Due.is("15: within 60 days", five.all(1), -9);
    Due.is("15: first of many", five.all(0), -9);
  }

  private static void bestTray() {
    InTraysPurgatory x = Due.with(TWO_SHEETS + "s391;m2;");
    Due.is("16: of several the least", x.bestTray(1, 0), 0);
    Due.is("16: when", x.bestTray(1, 1), 3);
    Due.is("16: nobody", x.bestTray(3, 2), -1);
    Due.is("16: nobody", x.bestTray(-1, 0), -1);
    Due.is("16: other ahead of state", x.bestTray(2, 2), -2);
    Due.is("16: other", x.bestTray(0, -1), -2);
    Due.is("16: mislaid", x.bestTray(2, 0), -3);
    x.days(1);
    Due.is("16: signed", x.bestTray(0, 0), -3);
    InTraysPurgatory carbon = Due.with("o2130;s391;");
    Due.is("16: a CARBON", carbon.bestTray(0, 0), 2);
    Due.is("16: when", carbon.bestTray(0, 1), 1);
    InTraysPurgatory never = Due.with(HEAVY);
    Due.is("16: never", never.bestTray(0, 0), -9);
    Due.is("16: never", never.bestTray(0, 1), -9);
    // in his own tray it would be behind the other one
    InTraysPurgatory own = Due.with("o1100;o2100;o3100;s000;s000;");
    Due.is("16: own, behind all", own.bestTray(0, 1), 2);
    Due.is("16: of several", own.bestTray(0, 0), 0);
  }

  private static void up() {
    InTraysPurgatory x = Due.with("s000;s000;s000;s001;s391;");
    Due.is("17: up", x.up(), 6);
    Due.is("17: none", Due.with("s000;s001;").up(), 0);
    Due.is("17: empty", new InTraysPurgatory().up(), 0);
    Due.is("17: haste goes ahead of place", Due.with("s000;s000;s100;o0130;").up(), 2);
    InTraysPurgatory mislaid = Due.with("s000;s000;m1;");
    Due.is("17: mislaid", mislaid.up(), 0);
    InTraysPurgatory seven = Due.with(SEVEN);
    Due.is("17: sooner, and sooner than never", seven.up(), 126);
  }

  private static void wanted() {
    InTraysPurgatory x = Due.with("s090;");
    Due.is("18: mercy", x.wanted(0, 1, 0), 12);
    Due.is("18: mercy of 1", x.wanted(1, 1, 0), 11);
    Due.is("18: mercy of 3", x.wanted(3, 1, 0), 9);
    Due.is("18: within two days", x.wanted(0, 2, 0), 0);
    Due.is("18: at once", x.wanted(0, 0, 0), -9);
    Due.is("18: no pace will do", x.wanted(0, 1, 1), -9);
    Due.is("18: nobody", x.wanted(4, -1, 2), -1);
    Due.is("18: nobody", x.wanted(-1, 0, 0), -1);
    Due.is("18: below", x.wanted(0, -1, 2), -4);
    Due.is("18: above", x.wanted(0, 61, 2), -6);
    Due.is("18: other", x.wanted(0, 60, 2), -2);
    Due.is("18: other", x.wanted(0, 0, -1), -2);
    InTraysPurgatory five = Due.with("s000;s000;s000;s000;s000;");
    Due.is("18: pace", five.wanted(0, 1, 1), 5);
    Due.is("18: pace", five.wanted(0, 2, 1), 3);
    Due.is("18: pace", five.wanted(0, 5, 1), 1);
    Due.is("18: another's pace", five.wanted(1, 1, 1), -9);
    Due.is("18: six", Due.with("s000;s000;s000;s000;s000;s000;").wanted(0, 1, 1), -9);
    InTraysPurgatory none = Due.with("s000;m0;");
    Due.is("18: nothing waits", none.wanted(0, 0, 0), 0);
    Due.is("18: nothing waits", none.wanted(0, 0, 1), 1);
  }

  private static void who() {
    InTraysPurgatory x = Due.with("o0107;o1106;o2130;o3105;s040;s392;s500;");
    Due.is("19: who", x.who(0), 5);
    Due.is("19: who", x.who(1), 4);
    Due.is("19: who", x.who(2), 15);
    x.mislays(0);
    Due.is("19: mislaid", x.who(0), 5);
    Due.is("19: nobody", x.who(3), -1);
    Due.is("19: nobody", x.who(-1), -1);
    InTraysPurgatory y = Due.with("s091;d01;");
    Due.is("19: as it is now", y.who(0), 0);
    y.days(1);
    Due.is("19: as it is now", y.who(0), 15);
  }

  private static void rounds() {
    InTraysPurgatory x = Due.with(TWO_SHEETS);
    Due.is("20: rounds", x.rounds(-1), 1);
    Due.is("20: round", x.rounds(1), 2);
    Due.is("20: no round", x.rounds(0), -9);
    Due.is("20: nobody", x.rounds(2), -1);
    Due.is("20: nobody", x.rounds(-2), -1);
    x.days(1);
    Due.is("20: from now", x.rounds(1), 1);
    x.days(1);
    Due.is("20: from now", x.rounds(1), -9);
    Due.is("20: rounds", x.rounds(-1), 0);
    Due.is("20: a CARBON", Due.with(HEAVY).rounds(0), 4);
    Due.is("20: beyond 99 minutes", Due.with(HEAVY + "d60;d60;").rounds(0), 4);
    Due.is("20: three times", Due.with("o0103;o1102;o2101;o3130;s030;").rounds(0), -9);
  }

  private static void clerk() {
    Due.is("32: of several the least", Due.with(TWO_SHEETS).clerk(), 0);
    Due.is("32: none", new InTraysPurgatory().clerk(), 0);
    // only 2 signs a CARBON, and only without 1 it comes to him
    Due.is("32: clerk", Due.with("o2130;s391;").clerk(), 1);
    Due.is("32: round", Due.with("o0130;s393;").clerk(), 3);
    // without 1 both are signed, as 0 passes sheet 1 on to 2 then
    Due.is("32: he is passed over", Due.with("o0100;o2130;s391;s060;").clerk(), 1);
    // only 0 signs within 30 days what goes round
    Due.is("32: he takes nothing", Due.with("o0130;o1100;o2100;o3100;s492;s492;s492;").clerk(), 1);
    // without 0, as without 2, sheet 0 is signed by 1 within 30 days only if it is among the first three of the nine
    String nine = "o0100;o1103;o2100;o3100;s090;s390;s390;s390;s390;s390;s390;s390;s390;";
    Due.is("32: in its order", Due.with(nine).clerk(), 0);
    InTraysPurgatory late = Due.with(nine.replace("s090;s390;s390;s390;", "s390;s390;s390;s090;"));
    for (int s = 0; s < 3; s++) late.moves(s, 0);
    Due.is("32: in its order, not by numbers", late.clerk(), 0);
    Due.is("32: all signed by each", Due.with("o0130;o1130;o2130;o3130;s000;s391;").clerk(), 0);
  }

  private static void light() {
    Due.is("33: light", Due.with(ROUND).light(), 0);
    Due.is("33: no more than as it is", Due.with("o0100;o1100;o2100;o3100;s490;s490;").light(), -9);
    Due.is("33: a light one is none", Due.with("s003;" + ROUND).light(), 1);
    Due.is("33: none", new InTraysPurgatory().light(), -9);
    // sheet 7 is taken every eighth day then, and signed as it is taken for the fourth time: on day 31 without sheet 0,
    // that lies behind it, on day 30 without one ahead
    InTraysPurgatory days =
        Due.with("o0100;o1100;o2100;o3100;s390;s390;s390;s390;s390;s390;s390;s090;s390;m0;m0;");
    Due.is("33: within 30 days", days.light(), 1);
    InTraysPurgatory mislaid = Due.with(ROUND + "m0;");
    Due.is("33: the mislaid", mislaid.light(), -9);
    mislaid.mislays(0);
    Due.is("33: found", mislaid.light(), 0);
  }

  private static void same() {
    Due.is("35: same", Due.with("s000;s001;s002;s000;s001;").same(), 4);
    Due.is("35: none", new InTraysPurgatory().same(), 0);
    InTraysPurgatory x = Due.with("s000;s001;d01;s391;s392;");
    Due.is("35: signed now or never", x.same(), 0);
    Due.is("35: mislaid", Due.with("s000;s001;m0;").same(), 0);
  }

  private static void busy() {
    InTraysPurgatory x = Due.with(TWO_SHEETS);
    Due.is("36: none", x.busy(0, 0), 0);
    Due.is("36: busy", x.busy(0, 3), 3);
    Due.is("36: busy", x.busy(0, 60), 3);
    Due.is("36: busy", x.busy(1, 60), 2);
    Due.is("36: nobody", x.busy(4, -1), -1);
    Due.is("36: nobody", x.busy(-1, 0), -1);
    Due.is("36: below", x.busy(0, -1), -4);
    Due.is("36: above", x.busy(0, 61), -6);
    InTraysPurgatory paced = Due.with("o0330;s000;s000;s000;s000;");
    Due.is("36: days, not sheets", paced.busy(0, 60), 2);
  }

  private static void passed() {
    InTraysPurgatory x = Due.with(TWO_SHEETS);
    int[] due = {0, 3, 7, 7};
    for (int n = 0; n < 4; n++) Due.is("37: passed " + n, x.passed(n), due[n]);
    Due.is("37: below", x.passed(-1), -4);
    Due.is("37: above", x.passed(61), -6);
    x.days(1);
    Due.is("37: from now", x.passed(60), 4);
    Due.is("37: beyond 99 minutes", Due.with(HEAVY + "d60;d60;").passed(60), 60);
  }

  private static void nothingChanges() {
    InTraysPurgatory x = Due.with("d60;d60;d60;d60;d60;d60;d60;d60;d60;d60;d60;d60;d60;d60;d60;d60;d39;");
    Due.office(x, TWO_SHEETS);
    Due.is("II: behind day 999", x.behind(1, 2, 2), 7);
    Due.is("II: behind day 999", x.signed(1, 0), 3);
    Due.is("II: behind day 999", x.passed(60), 7);
    x.up();
    x.clerk();
    x.light();
    x.wanted(0, 60, 0);
    x.wanted(0, 60, 1);
    x.bestTray(1, 0);
    int[] due = {2, 999, 3, 0, 0, 0, 0, 0, 0, 0};
    for (int i = 0; i < due.length; i++) Due.is("II: only in mind, count " + i, x.count(i), due[i]);
    Due.is("II: mercy", x.officialOf(0, 1), 5);
    Due.is("II: pace", x.officialOf(0, 0), 1);
    Due.is("II: tray", x.sheetOf(1, 3), 1);
  }
}
