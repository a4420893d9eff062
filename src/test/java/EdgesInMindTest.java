/**
 * Edges of promises 12 to 20, 32, 33 and 35 to 37: n at 0, 1, 59 and 60, and what is so on day 59, 60 or 61 (30 or 31),
 * told by a Clock.
 */
public final class EdgesInMindTest {
  private static final String DAY_999 = "d60;".repeat(16) + "d39;";

  public static void main(String[] args) {
    behind();
    then();
    signed();
    first();
    empty();
    never();
    bestTray();
    up();
    mercyWanted();
    paceWanted();
    who();
    round();
    rounds();
    clerk();
    light();
    same();
    busy();
    passed();
    dayMayPass();
    Due.end();
  }

  /** A SHEET that is taken and signed on the day behind so many, and no other day. */
  private static InTraysPurgatory signedBehind(int days) {
    return Due.with(Clock.holds(days) + "s000;");
  }

  private static void behind() {
    int s = Clock.bullies(59);
    InTraysPurgatory x = signedBehind(59);
    Due.is("12: ahead of all days", x.behind(s, 0, 1), s);
    Due.is("12: tray on day 59", x.behind(s, 59, 0), 0);
    Due.is("12: place on day 59", x.behind(s, 59, 1), 0);
    Due.is("12: minutes on day 59", x.behind(s, 59, 2), 0);
    Due.is("12: tray on day 60", x.behind(s, 60, 0), -9);
    Due.is("12: place on day 60", x.behind(s, 60, 1), -9);
    Due.is("12: minutes on day 60", x.behind(s, 60, 2), 3);
    Due.is("12: day 61", x.behind(s, 61, 0), -6);
    Rows.hold(Due.with("s090;s390;s000;m2;"), """
        12: behind(0, -1, 0) = -4
        12: behind(0, 0, 0) = 0 as it is now
        12: behind(0, 0, 1) = 0
        12: behind(0, 0, 2) = 0
        12: behind(1, 0, 1) = 1
        12: behind(0, 1, 0) = 0 round, behind the other
        12: behind(0, 1, 1) = 1
        12: behind(0, 1, 2) = 4
        12: behind(1, 1, 1) = 0
        12: behind(1, 59, 2) = 57
        12: behind(1, 60, 2) = 58
        12: behind(1, 61, 2) = -6
        12: behind(2, 0, 0) = -9 MISLAID
        12: behind(2, 60, 0) = -9
        12: behind(2, 60, 1) = -9
        12: behind(2, 60, 2) = 0
        12: behind(3, 0, 0) = -1
        """);
  }

  private static void then() {
    int s = Clock.bullies(59);
    InTraysPurgatory x = signedBehind(59);
    Due.is("13: waiting on day 0", x.then(0, 0, 1), s + 1);
    Due.is("13: signed on day 0", x.then(0, 0, 2), 0);
    Due.is("13: waiting on day 59", x.then(0, 59, 1), 1);
    Due.is("13: waiting on day 60", x.then(0, 60, 1), 0);
    Due.is("13: signed on day 59", x.then(3, 59, 2), s);
    Due.is("13: signed on day 60", x.then(3, 60, 2), s + 1);
    Due.is("13: borne on day 59", x.then(3, 59, 0), 0);
    Due.is("13: borne on day 60", x.then(3, 60, 0), 1);
    Due.is("13: day 61", x.then(3, 61, 0), -6);
    Rows.hold(Due.with("o0530;s490;s500;d01;s000;"), """
        13: then(0, -1, 0) = -4
        13: then(0, 0, 0) = 24 as it is now
        13: then(0, 0, 1) = 1
        13: then(0, 0, 2) = 2
        13: then(0, 1, 0) = 25
        13: then(0, 1, 1) = 0
        13: then(0, 1, 2) = 3
        13: then(3, 60, 0) = 0
        13: then(4, 60, 0) = -1
        """);
  }

  private static void signed() {
    for (int days = 58; days <= 60; days++) {
      InTraysPurgatory x = signedBehind(days);
      int s = Clock.bullies(days);
      Due.is("14: n, signed on day " + (days + 1), x.signed(s, 0), days == 60 ? -9 : days + 1);
      Due.is("14: by whom, signed on day " + (days + 1), x.signed(s, 1), days == 60 ? -9 : 3);
      x.days(1);
      Due.is("14: n, a day later", x.signed(s, 0), days);
      Due.is("14: by whom, a day later", x.signed(s, 1), 3);
    }
    Rows.hold(Due.with("s000;s003;"), """
        14: signed(0, 0) = 1
        14: signed(1, 0) = 1
        14: signed(1, 1) = 3
        10: days(1) = 2
        14: signed(0, 0) = 0
        14: signed(0, 1) = 0
        14: signed(1, 0) = 0
        14: signed(1, 1) = 3
        """);
  }

  /** Eight BULLYS take turns, so that the one with FIGURE 4 is signed as it is taken for the eighth time. */
  private static void first() {
    for (int place = 2; place <= 4; place++) {
      StringBuilder text = new StringBuilder(Clock.NO_MERCY);
      for (int i = 0; i < 8; i++) text.append(i == place ? "s440;" : "s490;");
      InTraysPurgatory x = Due.with(text.toString());
      Due.is("15: first is signed on day " + (57 + place), x.all(0), place == 4 ? -9 : place);
      Due.is("14: first is signed on day " + (57 + place), x.signed(place, 0), place == 4 ? -9 : 57 + place);
    }
    Rows.hold(new InTraysPurgatory(), """
        15: all(0) = -9 no SHEETS
        3: tell(s000;m0;) = 2
        15: all(0) = -9 MISLAID
        3: tell(s010;s003;s002;) = 3
        15: all(0) = 1 three in one DAY, the least
        8: mislays(1) = 2
        15: all(0) = 2
        9: moves(2, 2) = 2
        15: all(0) = 3 DAY by DAY
        10: days(1) = 1
        15: all(0) = 2 not SIGNED now
        10: days(1) = 2
        15: all(0) = -9
        """);
  }

  private static void empty() {
    for (int days = 58; days <= 60; days++) {
      Due.is("15: empty on day " + (days + 1), signedBehind(days).all(1), days == 60 ? -9 : days + 1);
    }
    Rows.hold(new InTraysPurgatory(), """
        15: all(1) = 0 no SHEETS
        3: tell(s000;s010;) = 2
        15: all(1) = 2
        8: mislays(1) = 1
        15: all(1) = 1 MISLAID ones do not WAIT
        8: mislays(0) = 2
        15: all(1) = 0
        8: mislays(0) = 1
        10: days(1) = 1
        15: all(1) = 0 SIGNED ones neither
        3: tell(s391;) = 1
        15: all(1) = -9 never
        """);
    Due.is("15: all nine", Due.with("s000;".repeat(9)).all(1), 9);
    Due.is("15: all nine, six of them with one", Due.with("o0530;s000;s000;s000;s000;s000;s001;s002;s003;s500;").all(1), 2);
  }

  private static void never() {
    for (int days = 58; days <= 60; days++) {
      Due.is("15: never, signed on day " + (days + 1), signedBehind(days).all(2), days == 60 ? 1 << Clock.bullies(60) : 0);
    }
    Rows.hold(Due.with("s390;s391;s392;s393;s390;s391;s000;s000;s393;m5;d01;"), """
        15: all(2) = 287 the first and the last, not MISLAID or SIGNED ones
        8: mislays(5) = 0
        15: all(2) = 319
        """);
    Due.is("15: none", new InTraysPurgatory().all(2), 0);
    Due.is("15: all nine", Due.with("s390;".repeat(9)).all(2), 511);
  }

  /** The CARBON is signed by official 0 alone, on the day behind so many. */
  private static void bestTray() {
    for (int days = 58; days <= 60; days++) {
      InTraysPurgatory x = Due.with(Clock.holdsForMercyOfSix(days) + "s301;");
      int s = x.count(0) - 1;
      Due.is("16: best on day " + (days + 1), x.bestTray(s, 0), days == 60 ? -9 : 0);
      Due.is("16: when, on day " + (days + 1), x.bestTray(s, 1), days == 60 ? -9 : days + 1);
      Due.is("14: where it is", x.signed(s, 0), -9);
    }
    Rows.hold(Due.with("o0100;o1100;o2100;o3105;s303;s303;"), """
        16: bestTray(0, 0) = -9
        7: sets(3, 1, 6) = 5
        16: bestTray(0, 0) = 3 the last one
        16: bestTray(0, 1) = 2 behind the other
        16: bestTray(1, 1) = 2
        7: sets(0, 1, 6) = 0
        16: bestTray(0, 0) = 0
        16: bestTray(0, 1) = 1
        7: sets(2, 1, 6) = 0
        7: sets(0, 1, 5) = 6
        16: bestTray(0, 0) = 2
        8: mislays(0) = 1
        16: bestTray(0, 0) = -3
        16: bestTray(1, 0) = 2 of several the least
        16: bestTray(1, 1) = 1
        10: days(1) = 1
        16: bestTray(1, 0) = -3
        """);
  }

  /** Of two SHEETS behind the BULLYS the second one would be signed a day sooner, up ahead of the first. */
  private static void up() {
    for (int days = 57; days <= 60; days++) {
      InTraysPurgatory x = Due.with(Clock.holds(days) + "s000;s000;");
      Due.is("17: sooner on day " + (days + 1), x.up() >> Clock.bullies(days), days == 60 ? 0 : 2);
    }
    Rows.hold(new InTraysPurgatory(), """
        17: up() = 0
        3: tell(s000;s003;) = 2
        17: up() = 0 ahead already
        9: moves(1, 0) = 2
        17: up() = 2
        8: mislays(0) = 1
        17: up() = 0
        8: mislays(0) = 0
        17: up() = 1 behind all now
        7: sets(0, 0, 2) = 1
        17: up() = 0 no sooner
        3: tell(o0130;s000;s000;s000;s000;s000;s000;s000;) = 8
        17: up() = 509 all nine but the one ahead
        """);
    Due.is("17: in its own TRAY", Due.with("o3100;s003;s003;").up(), 2);
  }

  private static void mercyWanted() {
    Rows.hold(signedBehind(59), """
        18: wanted(0, 60, 0) = 0 the least
        18: wanted(0, 59, 0) = 3
        18: wanted(0, 61, 0) = -6
        18: wanted(0, -1, 0) = -4
        18: wanted(0, 0, 0) = -9
        """);
    Rows.hold(Due.with(Clock.NO_MERCY + "s490;"), """
        18: wanted(0, 0, 0) = -9 it WAITS
        18: wanted(0, 1, 0) = 25 no less will do
        18: wanted(1, 1, 0) = 25
        18: wanted(2, 1, 0) = 24
        18: wanted(3, 1, 0) = 24
        18: wanted(0, 2, 0) = 23
        18: wanted(0, 12, 0) = 3
        18: wanted(0, 13, 0) = 0
        4: officialOf(0, 1) = 0
        7: sets(0, 1, 30) = 0
        18: wanted(1, 1, 0) = 0
        18: wanted(0, 1, 0) = 25 all others as now
        """);
    Rows.hold(Due.with("s391;"), """
        18: wanted(0, 60, 0) = -9 no mercy of 0 will do
        18: wanted(1, 1, 0) = 24
        18: wanted(1, 60, 0) = 24
        8: mislays(0) = 1
        18: wanted(0, 0, 0) = 0 nothing WAITS
        """);
    Due.is("18: no sheets", new InTraysPurgatory().wanted(3, 0, 0), 0);
  }

  private static void paceWanted() {
    for (int sheets = 0; sheets <= 9; sheets++) {
      for (int n = 0; n <= 5; n++) {
        InTraysPurgatory x = Due.with("o3130;");
        for (int i = 0; i < sheets; i++) x.sheet(0, 9, 3);
        int due = sheets == 0 ? 1 : n == 0 || sheets > 5 * n ? -9 : (sheets + n - 1) / n;
        Due.is("18: pace wanted for " + sheets + " in days " + n, x.wanted(3, n, 1), due);
      }
    }
    Rows.hold(signedBehind(59), """
        18: wanted(0, 60, 1) = 1
        18: wanted(0, 59, 1) = -9 as 1 takes no more than one a day
        18: wanted(0, 61, 1) = -6
        18: wanted(1, 60, 1) = 1
        4: officialOf(0, 0) = 1
        """);
  }

  private static void who() {
    Rows.hold(Due.with("o0111;o1112;o2113;o3130;s090;s000;s391;s500;m1;"), """
        19: who(0) = 14
        19: who(1) = 15 MISLAID
        19: who(2) = 8
        19: who(3) = 15
        19: who(4) = -1
        7: sets(0, 1, 12) = 11
        19: who(0) = 15
        7: sets(3, 1, 0) = 30
        19: who(0) = 7
        19: who(3) = 15 a SAINT
        7: sets(3, 1, 23) = 0
        19: who(2) = 0 none
        """);
  }

  /** A SHEET of weight 3, 4 or 5 is passed on so many times; it is taken on the day behind so many. */
  private static void round() {
    for (int days = 58; days <= 60; days++) {
      for (int figure = 0; figure <= 2; figure++) {
        InTraysPurgatory x = Due.with(Clock.holds(days) + "s0" + figure + "0;");
        int s = Clock.bullies(days);
        boolean round = figure > 0 && days < 60;
        Due.is("20: round of weight " + (3 + figure) + " on day " + (days + 1), x.rounds(s), round ? days + 1 : -9);
        Due.is("20: rounds, on day " + (days + 1), x.rounds(-1), round ? s + 1 : s);
      }
    }
    int[] dueByTray = {1, 2, 2, 2};
    for (int o = 0; o < 4; o++) {
      InTraysPurgatory x = Due.with(Clock.NO_MERCY);
      x.sheet(0, 1, o);
      Due.is("20: round from the tray of " + o, x.rounds(0), dueByTray[o]);
    }
  }

  private static void rounds() {
    Rows.hold(Due.with(Clock.NO_MERCY + "s020;s010;s000;s500;"), """
        20: rounds(-2) = -1
        20: rounds(-1) = 2
        20: rounds(0) = 2 behind the SAINT
        20: rounds(1) = 3
        20: rounds(2) = -9
        20: rounds(3) = -9
        20: rounds(4) = -1
        10: days(2) = 1
        5: sheetOf(0, 4) = 4
        20: rounds(0) = -9 from now it is once
        20: rounds(1) = 1
        20: rounds(-1) = 1
        8: mislays(1) = 1
        20: rounds(-1) = 0
        20: rounds(1) = -9
        """);
    Due.is("20: no sheets", new InTraysPurgatory().rounds(-1), 0);
    Due.is("20: all nine", Due.with("s390;".repeat(5) + "s391;".repeat(4)).rounds(-1), 9);
    InTraysPurgatory carbon = Due.with("s391;s391;");
    Due.is("20: a CARBON in its turn", carbon.rounds(0), 7);
    Due.is("20: a CARBON in its turn", carbon.rounds(1), 8);
    carbon.days(3);
    Due.is("20: from now", carbon.rounds(0), 8);
  }

  /**
   * Without 1 the CARBON comes to 2, who alone signs it, on day 29, 30 or 31: he has a mercy of 6, and the BULLYS go
   * round by 0, 2 and 3 ahead of it.
   */
  private static void clerk() {
    String officials = "o0100;o1100;o2106;o3100;";
    Due.is("32: on day 29", Due.with(officials + "s490;s490;s301;").clerk(), 1);
    Due.is("32: on day 30", Due.with(officials + "s490;s450;s440;s301;").clerk(), 1);
    Due.is("32: on day 31", Due.with(officials + "s490;s460;s430;s301;").clerk(), 0);
    Due.is("32: the last one", Due.with("o0106;s303;").clerk(), 3);
    Due.is("32: round, 3 to 0", Due.with("o1106;s303;").clerk(), 0);
    Due.is("32: of several the least", Due.with("o0106;o1106;s303;s301;").clerk(), 3);
    Due.is("32: none", new InTraysPurgatory().clerk(), 0);
    clerkRound();
    clerkLeavesMinutes();
    clerkOfAll();
    // without 0, 2 or 3 the one CARBON is signed by 1 on day 30; the other one, of 0, goes behind it, though it came first
    Due.is("32: behind all there", Due.with("o0100;o1106;o2100;o3100;s390;s491;s481;s401;s301;").clerk(), 0);
    Due.is("32: all are signed now", Due.with("s000;d01;").clerk(), 0);
  }

  /** One of them goes, also where more would be signed with all; and all nine of his sheets are passed on. */
  private static void clerkOfAll() {
    Due.is("32: without any of them fewer", Due.with(Clock.holds(29) + "s000;").clerk(), 0);
    Due.is("32: all nine", Due.with("o0130;o1100;o2100;o3106;" + "s303;".repeat(8) + "s393;").clerk(), 3);
  }

  /**
   * Without 2 the CARBON is signed by 3, on day 30. Without 0 the SHEET lies behind the BULLYS in the TRAY of 1, and comes
   * to 3 on day 30, passed on by 1 and 2 alone: he signs it there, if it weighs 8, but not, if it weighs 9.
   */
  private static void clerkLeavesMinutes() {
    String text = "o0100;o1100;o2200;o3106;s471;s471;s441;s302;";
    Due.is("32: 8 less 2 minutes", Due.with(text + "s050;").clerk(), 0);
    Due.is("32: 9 less 2 minutes", Due.with(text + "s060;").clerk(), 2);
  }

  /** He has a CARBON, and is passed over by the one ahead of him; only the one behind him signs, round. */
  private static void clerkRound() {
    for (int o = 0; o < 4; o++) {
      InTraysPurgatory x = Due.with(Clock.NO_MERCY);
      x.sets((o + 1) % 4, 1, 30);
      x.sheet(3, 9, o);
      for (int i = 0; i < 8; i++) x.sheet(4, 9, (o + 3) % 4);
      Due.is("32: round, by " + o, x.clerk(), o);
    }
  }

  /** The SHEET is signed on day 34 or 35, and 4 days sooner if BULLY 0, of FIGURE 0, is MISLAID. */
  private static void light() {
    Due.is("33: on day 30", Due.with(Clock.NO_MERCY + "s400;s460;s460;s450;s000;").light(), 0);
    Due.is("33: on day 31", Due.with(Clock.NO_MERCY + "s400;s460;s460;s460;s000;").light(), 1);
    for (int days = 28; days <= 30; days++) {
      Due.is("33: as it is, on day " + (days + 1), signedBehind(days).light(), days == 30 ? 0 : -9);
    }
    Due.is("33: no sheets", new InTraysPurgatory().light(), -9);
    Due.is("33: one alone", Due.with("s391;").light(), -9);
    Due.is("33: the mislaid", Due.with(Clock.holds(30) + "s000;m0;m1;m2;").light(), -9);
  }

  /** The SHEET and the CARBON are signed on the day behind so many, by 0 and by 1. */
  private static void same() {
    for (int days = 58; days <= 60; days++) {
      int several = (days + 10) / 11;
      InTraysPurgatory x = Due.with(Clock.holdsForMercyOfSix(days).replace("o0106;o1100;", "o0104;o1106;") + "s000;s301;");
      Due.is("14: on day " + (days + 1), x.signed(several, 0), days == 60 ? -9 : days + 1);
      Due.is("14: on day " + (days + 1), x.signed(several + 1, 0), days == 60 ? -9 : days + 1);
      Due.is("35: on day " + (days + 1), x.same(), days == 60 ? 0 : 1);
    }
    int[] twos = {0, 0, 1, 3, 6, 10};
    for (int sheets = 0; sheets <= 5; sheets++) {
      Due.is("35: twos of " + sheets, Due.with("o0500;o0530;" + "s000;".repeat(sheets)).same(), twos[sheets]);
    }
    Rows.hold(Due.with("s000;s001;s393;s393;d01;s000;s001;s002;m4;"), """
        35: same() = 1 SIGNED and MISLAID ones and those never SIGNED are none
        8: mislays(4) = 0
        35: same() = 3
        """);
  }

  private static void busy() {
    InTraysPurgatory x = signedBehind(59);
    Due.is("36: within 59 days", x.busy(0, 59), 59);
    Due.is("36: within 60 days", x.busy(0, 60), 60);
    Due.is("36: within 61 days", x.busy(0, 61), -6);
    Due.is("36: no more then", signedBehind(57).busy(0, 60), 58);
    Due.is("36: a BULLY comes by on all days but its last", x.busy(3, 60), 60 - Clock.bullies(59));
    Rows.hold(Due.with("o3200;s003;s003;s003;"), """
        36: busy(3, -1) = -4
        36: busy(3, 0) = 0
        36: busy(3, 1) = 1
        36: busy(3, 2) = 2
        36: busy(3, 3) = 2 nothing is left
        36: busy(0, 1) = 0
        36: busy(0, 2) = 1
        36: busy(0, 60) = 3
        36: busy(1, 60) = 0
        10: days(1) = 0
        36: busy(3, 60) = 1 from now
        36: busy(0, 60) = 3
        """);
    Due.is("36: what he passes on to himself", Due.with("s393;").busy(3, 60), 60);
    Due.is("36: no sheets", new InTraysPurgatory().busy(0, 60), 0);
    Due.is("36: the MISLAID", Due.with("s000;m0;").busy(0, 60), 0);
  }

  private static void passed() {
    InTraysPurgatory x = Due.with(Clock.holds(59) + "s000;");
    Due.is("37: within 60 days, 3 more", x.passed(60) - x.passed(59), 3);
    Due.is("37: within 59 days", x.passed(59) - x.passed(58), 2);
    Rows.hold(Due.with("s391;s000;s093;"), """
        37: passed(-1) = -4
        37: passed(0) = 0
        37: passed(1) = 2
        37: passed(2) = 4
        37: passed(59) = 64
        37: passed(60) = 65
        37: passed(61) = -6
        10: days(1) = 1
        37: passed(0) = 0 from now
        37: passed(1) = 2
        """);
    Due.is("37: no sheets", new InTraysPurgatory().passed(60), 0);
  }

  /** DAY may pass 999 in mind: on DAY 999 all is answered as on DAY 0. */
  private static void dayMayPass() {
    String text = "o0103;o1102;s490;s460;s090;s391;s500;s190;s000;";
    for (String call : new String[] {"12: behind(2, 60, 2)", "12: behind(0, 7, 0)", "12: behind(0, 7, 1)", "13: then(0, 60, 0)",
        "13: then(3, 5, 1)", "13: then(0, 60, 2)", "14: signed(0, 0)", "14: signed(0, 1)", "15: all(0)", "15: all(1)", "15: all(2)",
        "16: bestTray(0, 0)", "16: bestTray(0, 1)", "17: up()", "18: wanted(0, 9, 0)", "18: wanted(0, 60, 1)", "20: rounds(-1)",
        "20: rounds(0)", "23: whose(0, 1)", "24: which(0, 1)", "26: two(0, 1)", "27: holidays(0, 1, 6, 3, 0)", "32: clerk()",
        "33: light()", "35: same()", "36: busy(0, 60)", "37: passed(60)", "41: lots(3, 4, 0)", "41: lots(3, 4, 1)"}) {
      InTraysPurgatory early = Due.with(text);
      InTraysPurgatory late = Due.with(DAY_999);
      Due.office(late, text);
      for (int i = 0; i < 8; i++) {
        early.row(early.then(0, i, 1));
        late.row(late.then(0, i, 1));
      }
      Due.is(call + ", DAY above 999", Rows.answer(late, call + " = 0"), Rows.answer(early, call + " = 0"));
      Due.is(call + ", no refusal", late.count(14) + late.count(16), 0);
    }
  }
}
