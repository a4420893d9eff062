/** Edges of promises 21 to 31, 34 and 41: what is shared, told by a row, chosen or drawn. */
public final class EdgesOfChoicesTest {
  public static void main(String[] args) {
    fair();
    heaviest();
    whosePaces();
    whoseMercies();
    whichKinds();
    whichFigures();
    whichOfOnePassedOn();
    rowOfTwelve();
    trolley();
    trolleyOrders();
    two();
    twoDays();
    twoMercies();
    twoOfBoth();
    holidays();
    fullest();
    longest();
    top();
    queue();
    average();
    lots();
    draws();
    drawnBehindAll();
    Due.end();
  }

  /** All BORNE from 0 to 9: shared by 4, cut, and what is left over. */
  private static void fair() {
    for (int all = 0; all <= 9; all++) {
      InTraysPurgatory x = Due.with("o3530;");
      for (int i = 0; i < all; i++) x.sheet(0, 0, 3);
      x.days(2);
      Due.is("21: fair, all " + all, x.fair(0), all);
      Due.is("21: shared, all " + all, x.fair(1), all / 4);
      Due.is("21: left over, all " + all, x.fair(2), all % 4);
    }
    Rows.hold(Due.with("o0130;o1130;o2130;o3130;s490;s090;s000;s001;s002;s003;"), """
        21: fair(0) = 0
        10: days(1) = 4
        21: fair(0) = 24 25 less 1
        21: fair(1) = 7
        21: fair(2) = 0
        10: days(1) = 5
        21: fair(0) = 28
        21: fair(1) = 8
        21: fair(2) = 0
        21: fair(3) = -2
        """);
  }

  private static void heaviest() {
    Rows.hold(new InTraysPurgatory(), """
        22: heaviest(0) = -9
        22: heaviest(1) = -9
        6: sheet(5, 9, 0) = 0
        22: heaviest(0) = 0
        22: heaviest(1) = 0 none is lighter
        6: sheet(2, 0, 0) = 1
        22: heaviest(0) = 1
        22: heaviest(1) = 1
        6: sheet(4, 9, 3) = 2
        6: sheet(4, 9, 2) = 3
        22: heaviest(0) = 2 of several the least
        22: heaviest(1) = 25 none is heavier
        8: mislays(2) = 1
        22: heaviest(0) = 3
        22: heaviest(2) = 1000000002
        22: heaviest(-1) = 1000000002
        7: sets(2, 1, 30) = 5
        10: days(1) = 2
        22: heaviest(0) = 1 a SIGNED one is none
        10: days(1) = 3
        22: heaviest(0) = -9
        22: heaviest(1) = -9
        """);
    Rows.hold(Due.with(Clock.NO_MERCY + "s000;d01;"), """
        44: count(3) = 1
        3: tell(s000;m0;) = -2005
        3: tell(s003;d01;s010;) = 3
        22: heaviest(0) = 2
        22: heaviest(1) = 4
        8: mislays(2) = 1
        22: heaviest(0) = 1
        22: heaviest(1) = 2 3 less 1
        """);
  }

  /** How many WAIT in the TRAY of 3 behind one DAY, of six, is so by one PACE each. */
  private static void whosePaces() {
    for (int left = 0; left <= 6; left++) {
      InTraysPurgatory x = Due.with("o3530;");
      for (int i = 0; i < 6; i++) x.sheet(0, 9, 3);
      Due.row(x, 6, left);
      Due.is("23: paces, " + left + " left", x.whose(3, 0), left == 0 || left == 6 ? 0 : 1 << (6 - left));
      Due.is("23: all mercies, " + left + " left", x.whose(3, 1), left == 1 ? 31 : 0);
      Due.is("23: the least, " + left + " left", x.whose(3, 2), left == 1 ? 0 : -9);
      Due.is("23: the row stays", x.count(8), 2);
      Due.is("23: only in mind", x.officialOf(3, 0), 5);
    }
    Rows.hold(new InTraysPurgatory(), """
        23: whose(0, 0) = 62 an empty ROW
        38: row(0) = 1
        23: whose(0, 0) = 62
        23: whose(3, 0) = 62
        38: row(1) = 2
        23: whose(3, 0) = 0
        """);
  }

  /** A CARBON in the TRAY of 3 is signed there by MERCIES from its weight on, else it stays. */
  private static void whoseMercies() {
    for (int figure = 0; figure <= 9; figure++) {
      InTraysPurgatory x = Due.with(Clock.NO_MERCY + "s3" + figure + "3;");
      int weight = 2 * (3 + figure);
      Due.row(x, 1, 0);
      Due.is("23: mercies", x.whose(3, 1), 31 - weight);
      Due.is("23: the least", x.whose(3, 2), weight);
      Due.row(x, 1, 1);
      Due.is("23: mercies too little", x.whose(3, 1), weight);
      Due.is("23: the least of these", x.whose(3, 2), 0);
      Due.row(x, 1, 2);
      Due.is("23: none", x.whose(3, 1), 0);
      Due.is("23: none, the least", x.whose(3, 2), -9);
      Due.is("23: no pace either", x.whose(3, 0), 0);
    }
    InTraysPurgatory gone = Due.with(Clock.NO_MERCY + "s493;");
    Due.row(gone, 1, 0);
    Due.is("23: SIGNED or gone to the next", gone.whose(3, 1), 31);
    Due.is("23: SIGNED or gone to the next, the least", gone.whose(3, 2), 0);
    Due.is("23: an empty ROW", new InTraysPurgatory().whose(3, 1), 31);
    Due.is("23: an empty ROW, the least", new InTraysPurgatory().whose(3, 2), 0);
  }

  /** With FIGURE 0 the kinds weigh 3, 7, 1, 6, 7 and 0. */
  private static void whichKinds() {
    int[] dueByMercy = {32, 36, 36, 37, 37, 37, 45, 63, 63};
    for (int mercy = 0; mercy <= 8; mercy++) {
      InTraysPurgatory x = Due.with("s003;");
      x.sets(3, 1, mercy);
      Due.row(x, 3, 9);
      Due.is("24: signed, mercy " + mercy, x.which(0, 0), dueByMercy[mercy]);
      Due.row(x, 3, 0);
      Due.is("24: passed on, mercy " + mercy, x.which(0, 0), 63 & ~dueByMercy[mercy] & ~8);
      Due.row(x, 3, 3);
      Due.is("24: stays, mercy " + mercy, x.which(0, 0), mercy < 6 ? 8 : 0);
      Due.is("24: the row stays", x.count(8), 2);
      Due.is("24: only in mind", x.sheetOf(0, 0), 0);
    }
    Rows.hold(Due.with("s003;"), """
        24: which(0, 0) = 63 an empty ROW
        24: which(0, 1) = 1023
        38: row(3) = 1
        24: which(0, 0) = 63
        24: which(0, 1) = 1023
        10: days(1) = 1
        24: which(0, 0) = 0
        40: clear() = 1
        38: row(9) = 1
        24: which(0, 0) = 63 SIGNED now
        38: row(9) = 2
        24: which(0, 1) = 1023
        38: row(0) = 3
        24: which(0, 1) = 0
        """);
  }

  private static void whichFigures() {
    for (int mercy = 2; mercy <= 13; mercy++) {
      InTraysPurgatory x = Due.with("s043;");
      x.sets(3, 1, mercy);
      int figures = Math.max(0, Math.min(10, mercy - 2));
      Due.row(x, 3, 9);
      Due.is("24: figures signed, mercy " + mercy, x.which(0, 1), (1 << figures) - 1);
      Due.row(x, 3, 0);
      Due.is("24: figures passed on, mercy " + mercy, x.which(0, 1), 1023 - ((1 << figures) - 1));
      Due.row(x, 3, 3);
      Due.is("24: none stays, mercy " + mercy, x.which(0, 1), 0);
      Due.is("24: only in mind", x.sheetOf(0, 1), 4);
    }
  }

  /** MINUTES stay as they are now, and so do FIGURE and KIND that are not asked for. */
  private static void whichOfOnePassedOn() {
    InTraysPurgatory x = Due.with("s093;d01;");
    Due.row(x, 0, 9);
    x.sets(1, 1, 0);
    x.sets(2, 1, 0);
    x.sets(3, 1, 0);
    Due.is("24: figures up to 3, as it was passed on once", x.which(0, 1), 15);
    Due.is("24: a SAINT, and a DRAFT of FIGURE 9", x.which(0, 0), 36);
  }

  /** The eleventh and the twelfth number count, and tell what is so behind 10 and 11 DAYS. */
  private static void rowOfTwelve() {
    for (int wrong = 10; wrong <= 12; wrong++) {
      InTraysPurgatory x = Due.with("s390;s391;");
      for (int i = 0; i < 12; i++) x.row(i == wrong ? 2 : 1);
      Due.is("23: wrong at " + wrong, x.whose(1, 0), wrong == 12 ? 62 : 0);
      Due.is("23: wrong at " + wrong, x.whose(1, 1), wrong == 12 ? 24 : 0);
      Due.is("24: wrong at " + wrong, x.which(1, 0), wrong == 12 ? 8 : 0);
      Due.is("24: a row of twelve", x.count(8), 12);
    }
    for (int days = 10; days <= 12; days++) {
      InTraysPurgatory x = Due.with("o0106;" + "s300;".repeat(8));
      for (int i = 0; i < days; i++) x.row(i > 8 ? 0 : 8 - i);
      Due.is("23: one less each day, " + days, x.whose(0, 0), 2);
    }
  }

  private static void trolley() {
    Rows.hold(Due.with("r03;r11;r29;r30;"), """
        25: trolley(-2) = -4
        25: trolley(-1) = 0 no TRAY has any
        25: trolley(0) = -9
        6: sheet(0, 0, 0) = 0
        25: trolley(-1) = 3
        25: trolley(0) = 0
        25: trolley(1) = -9
        6: sheet(0, 0, 2) = 1
        25: trolley(-1) = 9
        25: trolley(0) = 0
        25: trolley(1) = 2
        25: trolley(2) = -9
        6: sheet(0, 0, 1) = 2
        25: trolley(-1) = 9
        25: trolley(0) = 1
        25: trolley(1) = 0
        25: trolley(2) = 2
        25: trolley(3) = -9
        6: sheet(0, 0, 3) = 3
        25: trolley(-1) = 9
        25: trolley(0) = 3
        25: trolley(1) = 1
        25: trolley(2) = 0
        25: trolley(3) = 2
        25: trolley(4) = -9
        25: trolley(2147483647) = -9
        8: mislays(3) = 1
        25: trolley(0) = 1
        25: trolley(3) = -9
        8: mislays(0) = 2
        8: mislays(1) = 3
        8: mislays(2) = 4
        25: trolley(-1) = 0
        """);
  }

  /** Several in one ROOM, or in ROOM 0, or all in the last: the first of the shortest orders, by numbers. */
  private static void trolleyOrders() {
    String[] rooms = {"r00;r10;r20;r30;", "r09;r19;r29;r39;", "r05;r10;r25;r30;", "r09;r18;r28;r39;", "r00;r11;r20;r31;",
        "r03;r12;r21;r30;", "r01;r10;r21;r30;"};
    int[] ways = {0, 9, 5, 9, 1, 3, 1};
    int[][] orders = {{0, 1, 2, 3}, {0, 1, 2, 3}, {1, 3, 0, 2}, {1, 2, 0, 3}, {0, 2, 1, 3}, {3, 2, 1, 0}, {1, 3, 0, 2}};
    for (int i = 0; i < rooms.length; i++) {
      InTraysPurgatory x = Due.with(rooms[i] + "s000;s001;s002;s003;");
      Due.is("25: the way, " + rooms[i], x.trolley(-1), ways[i]);
      for (int j = 0; j < 4; j++) Due.is("25: the order, " + rooms[i], x.trolley(j), orders[i][j]);
      Due.is("25: no more, " + rooms[i], x.trolley(4), -9);
    }
  }

  private static void two() {
    Rows.hold(new InTraysPurgatory(), """
        26: two(0, 1) = 0
        26: two(3, 0) = 0
        26: two(0, 0) = -1
        26: two(4, 0) = -1
        26: two(3, 4) = -1
        26: two(-1, 3) = -1
        """);
    // 1 bears 7 less 1 with more mercy; else the SAINT comes first, and he bears 7
    Rows.hold(Due.with("s401;s511;"), """
        26: two(0, 1) = 1
        26: two(1, 0) = 10
        26: two(1, 3) = 10
        26: two(2, 3) = 0
        26: two(3, 0) = 0
        4: officialOf(1, 1) = 5
        """);
    Due.is("26: no such pair",
        Due.with("o0103;o1103;o2307;s562;s260;s282;s331;s161;s410;s491;s000;s530;").two(0, 2), -9);
    Due.is("26: 1 less is borne by either choice", Due.with("o1130;s491;d01;s511;").two(1, 0), 0);
  }

  /**
   * With a mercy of 10, 3 signs BULLY 0 and then the SAINT, 7 less 1, and BULLY 2 on day 9, 10 or 11, as its FIGURE is
   * 7, 8 or 9; with a mercy of 5 first the SAINT and then BULLY 0, 7, and BULLY 2 later.
   */
  private static void twoDays() {
    Due.is("26: borne on day 9", Due.with("s403;s503;s473;").two(0, 3), 0);
    Due.is("26: borne on day 10", Due.with("s403;s503;s483;").two(0, 3), 0);
    Due.is("26: borne on day 11 is no more of it", Due.with("s403;s503;s493;").two(0, 3), 1);
  }

  /** 1 bears least, if he signs the BULLY of weight 9 ahead of the SAINT: with MERCIES 4 to 8 and 5 more, not as they are. */
  private static void twoMercies() {
    for (int mercy = 0; mercy <= 12; mercy++) {
      InTraysPurgatory x = Due.with(Clock.NO_MERCY + "s411;s511;");
      x.sets(1, 1, mercy);
      Due.is("26: mercy " + mercy, x.two(0, 1), mercy >= 4 && mercy <= 8 ? 1 : 0);
      Due.is("26: mercy " + mercy, x.two(1, 2), mercy >= 4 && mercy <= 8 ? 10 : 0);
    }
  }

  /** (1, 1) alone stays; told is what the first and the other bear by (0, 0), (0, 1), (1, 0) and (1, 1). */
  private static void twoOfBoth() {
    int[][] ofOne = {{1, 31}, {1, 55}, {0, 55}, {1, 54}};
    bearAndChoose("o0103;o1403;o2114;o3312;s270;s440;s000;s223;s442;s493;s530;s572;", 0, 2, ofOne);
    int[][] ofAnother = {{3, 1}, {0, 2}, {1, 1}, {0, 0}};
    bearAndChoose("o0300;o1103;o2302;o3102;s293;s553;s470;s551;s042;s573;s251;s571;s000;", 3, 1, ofAnother);
  }

  private static void bearAndChoose(String text, int one, int other, int[][] due) {
    InTraysPurgatory x = Due.with(text);
    for (int pair = 0; pair < 4; pair++) {
      InTraysPurgatory y = Due.with(text);
      y.sets(one, 1, y.officialOf(one, 1) + 5 * (pair / 2));
      y.sets(other, 1, y.officialOf(other, 1) + 5 * (pair % 2));
      Due.is("13: the one bears, pair " + pair, y.then(one, 10, 0), due[pair][0]);
      Due.is("13: the other bears, pair " + pair, y.then(other, 10, 0), due[pair][1]);
    }
    Due.is("26: more mercy, both of them", x.two(one, other), 11);
    Due.is("26: more mercy, the other way round", x.two(other, one), 11);
  }

  private static void fraction(InTraysPurgatory x, int official, int sheet, int n, int t, long above, long below) {
    String call = "27: holidays " + official + " " + sheet + " " + n + " " + t;
    Due.is(call + ", above", x.holidays(official, sheet, n, t, 0), above);
    Due.is(call + ", below", x.holidays(official, sheet, n, t, 1), below);
  }

  private static void holidays() {
    InTraysPurgatory six = Due.with("s000;s000;s000;s000;s000;s000;");
    fraction(six, 0, 5, 6, 2, 1, 64);
    fraction(six, 0, 5, 6, 3, 64, 729);
    fraction(six, 0, 5, 6, 19, 34012224, 47045881);
    fraction(six, 0, 5, 6, 20, 47045881, 64000000);
    fraction(six, 0, 5, 5, 20, 0, 1);
    fraction(six, 0, 4, 5, 2, 1, 32);
    fraction(six, 0, 0, 0, 2, 0, 1);
    fraction(six, 0, 0, 1, 2, 1, 2);
    fraction(six, 0, 0, 1, 20, 19, 20);
    fraction(six, 0, 0, 6, 2, 63, 64);
    fraction(six, 0, 1, 2, 4, 9, 16);
    fraction(six, 3, 0, 1, 2, 1, 1);
    fraction(six, 3, 5, 5, 2, 0, 1);
    Due.is("27: seven days", six.holidays(0, 0, 7, 2, 0), 4000000000000000006L);
    Due.is("27: odds of 21", six.holidays(0, 0, 6, 21, 0), 4000000000000000006L);
    Due.is("27: odds of 1", six.holidays(0, 0, 6, 1, 0), 4000000000000000004L);
    // what is passed on to him lies there as long as he is away
    fraction(Due.with("o0100;s000;"), 1, 0, 1, 10, 9, 10);
    fraction(Due.with("o0100;s000;"), 1, 0, 2, 10, 99, 100);
    fraction(Due.with("o0100;s000;"), 2, 0, 1, 10, 1, 1);
    InTraysPurgatory gone = Due.with("s000;s000;m1;d01;");
    fraction(gone, 0, 0, 0, 2, 1, 1);
    fraction(gone, 0, 0, 6, 20, 1, 1);
    fraction(gone, 0, 1, 0, 2, 0, 1);
    fraction(gone, 0, 1, 6, 20, 0, 1);
  }

  private static void fullest() {
    Rows.hold(new InTraysPurgatory(), """
        28: fullest(0) = 0
        28: fullest(1) = 0
        6: sheet(3, 9, 3) = 0
        28: fullest(0) = 3
        28: fullest(1) = 1
        6: sheet(3, 9, 2) = 1
        28: fullest(0) = 2 of several the least
        28: fullest(1) = 1
        6: sheet(3, 9, 3) = 2
        28: fullest(0) = 3
        28: fullest(1) = 2
        8: mislays(0) = 1
        28: fullest(0) = 2
        28: fullest(2) = -2
        """);
    Due.is("28: all nine", Due.with("s391;".repeat(9)).fullest(1), 9);
  }

  private static void longest() {
    Rows.hold(new InTraysPurgatory(), """
        29: longest(0) = -9
        29: longest(1) = -9
        6: sheet(0, 9, 3) = 0
        6: sheet(0, 9, 2) = 1
        6: sheet(0, 9, 2) = 2
        29: longest(0) = 0 of several the least
        29: longest(1) = 0
        10: days(1) = 0
        29: longest(0) = 0 passed on by 3 only
        29: longest(1) = 1
        10: days(1) = 0
        29: longest(1) = 3
        8: mislays(0) = 1
        29: longest(0) = 1
        29: longest(2) = -2
        """);
    Rows.hold(Due.with("s000;d01;"), """
        29: longest(0) = -9 SIGNED
        29: longest(1) = -9
        """);
  }

  private static void top() {
    Rows.hold(new InTraysPurgatory(), """
        30: top(0) = -9
        30: top(3) = -9
        30: top(4) = -1
        6: sheet(0, 0, 3) = 0
        30: top(3) = 0
        6: sheet(3, 0, 3) = 1
        30: top(3) = 0 the one ahead
        6: sheet(2, 0, 3) = 2
        30: top(3) = 2
        6: sheet(4, 0, 3) = 3
        30: top(3) = 2 the one ahead
        6: sheet(1, 0, 3) = 4
        30: top(3) = 4
        8: mislays(4) = 1
        30: top(3) = 2
        10: days(1) = 1
        30: top(3) = 3
        30: top(0) = -9
        """);
  }

  private static void queue() {
    InTraysPurgatory nine = Due.with("s003;".repeat(9));
    for (int s = 0; s < 9; s++) Due.is("31: queue of nine", nine.queue(3, s), s);
    Rows.hold(nine, """
        31: queue(3, 9) = -1
        31: queue(4, 0) = -1
        31: queue(2, 0) = -9
        9: moves(0, 3) = 9
        31: queue(3, 0) = 8
        31: queue(3, 1) = 0
        8: mislays(1) = 1
        31: queue(3, 1) = -9
        31: queue(3, 2) = 0
        10: days(1) = 1
        31: queue(3, 2) = -9 SIGNED by 3
        31: queue(3, 3) = 0
        """);
  }

  private static void average() {
    Rows.hold(new InTraysPurgatory(), """
        34: average(0) = 0
        34: average(1) = 1
        34: average(2) = 4000000000000000002
        34: average(-1) = 4000000000000000002
        6: sheet(3, 9, 3) = 0
        34: average(0) = 0
        34: average(1) = 1
        10: days(6) = 0
        34: average(0) = 6
        34: average(1) = 1
        6: sheet(3, 9, 3) = 1
        34: average(0) = 3
        34: average(1) = 1
        6: sheet(0, 0, 0) = 2
        6: sheet(0, 0, 0) = 3
        34: average(0) = 3
        34: average(1) = 2
        10: days(2) = 2
        34: average(0) = 2 7 and 1
        8: mislays(0) = 1
        34: average(1) = 1
        6: sheet(0, 0, 0) = 4
        6: sheet(0, 0, 0) = 5
        6: sheet(0, 0, 0) = 6
        6: sheet(0, 0, 0) = 7
        6: sheet(0, 0, 0) = 8
        34: average(0) = 8
        34: average(1) = 9
        """);
  }

  /** A SHEET is signed on its first day by each; a BULLY on day 10 or 11 from the TRAY of official 0, where 0 is drawn. */
  private static void lots() {
    Rows.hold(Due.with("s000;"), """
        41: lots(0, 0, 0) = -4
        41: lots(1, 0, 0) = 1
        41: lots(2, 0, 0) = 2
        41: lots(19, 0, 0) = 19
        41: lots(20, 0, 0) = 20
        41: lots(21, 0, 0) = -6
        41: lots(20, 0, 1) = 20
        41: lots(20, 0, 2) = -2
        41: lots(20, 2147483647, 0) = 20
        41: lots(20, -2147483648, 0) = 20
        10: days(1) = 1
        41: lots(20, 0, 0) = 0 none WAITS
        41: lots(20, 0, 1) = 0
        """);
    for (int mercy = 5; mercy <= 7; mercy++) {
      InTraysPurgatory x = new InTraysPurgatory();
      for (int o = 0; o < 4; o++) x.sets(o, 1, mercy);
      x.sheet(4, 9, 3);
      Due.is("41: ten days, mercy " + mercy, x.lots(1, 0, 0), mercy == 5 ? 0 : 1);
      Due.is("41: borne in ten days, mercy " + mercy, x.lots(1, 0, 1), mercy == 5 ? 0 : 25);
    }
    Due.is("41: no sheets", new InTraysPurgatory().lots(20, 0, 0), 0);
    Due.is("41: below 0", Due.with("o0130;s490;d01;s500;").lots(3, 0, 1), -3);
  }

  /**
   * A CARBON is signed by one official alone, so that he tells which TRAY was drawn. z behind one step: of 0 12345; of
   * 1 1103527590; of 2 it wraps to below 0; of 4 it wraps round to 119106029; those below 0 lose the sign's bit. The
   * CARBON of FIGURE 9 is signed by none and takes the second draw.
   */
  private static void draws() {
    int[] seeds = {0, 1, 2, 3, 4, -1, -2, -3, Integer.MAX_VALUE, Integer.MIN_VALUE, 1073741824, -1073741824};
    int[] first = {0, 2, 0, 3, 1, 1, 3, 1, 1, 0, 0, 0};
    for (int i = 0; i < seeds.length; i++) {
      for (int o = 0; o < 4; o++) {
        InTraysPurgatory x = new InTraysPurgatory();
        x.sets(o, 1, 6);
        x.sheet(3, 0, 3);
        x.sheet(3, 9, 3);
        Due.is("41: a draw of " + seeds[i] + ", official " + o, x.lots(1, seeds[i], 0), first[i] == o ? 1 : 0);
      }
    }
  }

  /** Both go to the TRAY of 0, by numbers: a SAINT bears 1 less only behind the other one. */
  private static void drawnBehindAll() {
    InTraysPurgatory draft = Due.with("s230;s500;");
    Due.is("41: the DRAFT first", draft.lots(1, 0, 1), 0);
    draft.moves(0, 0);
    Due.is("41: by numbers, behind all there", draft.lots(1, 0, 1), 0);
    InTraysPurgatory saint = Due.with("s500;s230;");
    Due.is("41: the SAINT first", saint.lots(1, 0, 1), 1);
    saint.moves(0, 0);
    Due.is("41: by numbers, behind all there", saint.lots(1, 0, 1), 1);
  }
}
