/**
 * Edges of promises 1 to 11, 38 to 40 and 42 to 44: just inside, at and just outside. RefusalsTest holds that what is
 * refused changes nothing; here is what is taken, and what follows.
 */
public final class EdgesOfChangesTest {
  private static final String NINE = "s000;s000;s000;s000;s000;s000;s000;s000;s000;";
  private static final String DAY_960 = "d60;".repeat(16);

  public static void main(String[] args) {
    newObject();
    feed();
    officeLetters();
    officeLength();
    officeNumbers();
    officeOfMany();
    officialOf();
    sheetOf();
    sheet();
    sets();
    mislays();
    moves();
    days();
    backAtMost();
    backOfEach();
    leavesNone();
    row();
    judge();
    clear();
    image();
    count();
    Due.end();
  }

  private static void newObject() {
    Rows.hold(new InTraysPurgatory(), """
        1: count(0) = 0
        4: officialOf(0, 0) = 1
        4: officialOf(3, 0) = 1
        4: officialOf(0, 1) = 5
        4: officialOf(3, 1) = 5
        4: officialOf(0, 2) = 0
        4: officialOf(3, 2) = 0
        4: officialOf(0, 3) = 0
        4: officialOf(1, 3) = 2
        4: officialOf(2, 3) = 4
        4: officialOf(3, 3) = 6
        4: officialOf(0, 4) = 0
        4: officialOf(3, 4) = 0
        44: count(1) = 0
        8: mislays(0) = -1
        10: days(1) = 0
        44: count(1) = 1
        """);
  }

  private static void feed() {
    InTraysPurgatory x = new InTraysPurgatory();
    Rows.hold(x, """
        2: feed(-1) = -4
        2: feed(0) = 1
        2: feed(1) = 2
        2: feed(254) = 3
        2: feed(255) = 4
        2: feed(256) = -6
        """);
    for (int i = 5; i <= 95; i++) x.feed('s');
    Rows.hold(x, """
        44: count(7) = 95
        2: feed(115) = 96
        2: feed(115) = -6
        44: count(7) = 96
        3: office() = -1000
        44: count(7) = 0
        2: feed(115) = 1
        """);
  }

  /** At each place of each statement the letters that go on, and those just outside them. */
  private static void officeLetters() {
    String[] statements = {"s513;", "o3130;", "r39;", "m0;", "d01;"};
    for (String statement : statements) {
      for (int place = 0; place < statement.length(); place++) {
        boolean last = place == statement.length() - 1;
        for (int letter = 0; letter <= 255; letter++) {
          boolean digit = letter >= '0' && letter <= '9';
          boolean fits = place == 0 ? "sormd".indexOf(letter) >= 0 : last ? letter == ';' : digit;
          if (fits) continue;
          InTraysPurgatory x = new InTraysPurgatory();
          String text = statement.substring(0, place) + (char) letter;
          Due.is("3: fault behind " + place + " letters of " + statement, Due.office(x, text), -1000 - place);
          x.sheet(0, 0, 0);
          String whole = "r00;" + text + statement.substring(place + 1);
          Due.is("3: fault in the second of " + whole, Due.office(x, whole), -1004 - place);
        }
        InTraysPurgatory x = new InTraysPurgatory();
        x.sheet(0, 0, 0);
        Due.is("3: something lacks", Due.office(x, statement.substring(0, place)), -1000 - place);
        Due.is("3: something lacks in the second", Due.office(x, "r00;" + statement.substring(0, place)),
            place == 0 ? 1 : -1004 - place);
      }
      InTraysPurgatory x = new InTraysPurgatory();
      x.sheet(0, 0, 0);
      Due.is("3: one is enough, " + statement, Due.office(x, statement), 1);
      Due.is("3: two, " + statement, Due.office(x, statement + statement), 2);
      Due.is("3: a letter of the next", Due.office(x, statement + statement.charAt(0)), -1001 - statement.length());
    }
    Rows.hold(new InTraysPurgatory(), """
        3: office() = -1000 at least one STATEMENT
        3: tell(r00;) = 1
        3: office() = -1000 they are no more then
        3: tell(s600;s) = -1006 kind 1 ahead of kind 2
        3: tell(s600;s600;) = -2000 the first of two
        3: tell(s000;s600;) = -2005
        44: count(0) = 0
        """);
  }

  /** 95, 96 and 97 letters, and 96 of which the last statement has no end. */
  private static void officeLength() {
    InTraysPurgatory x = new InTraysPurgatory();
    Due.is("3: 95 letters", Due.office(x, "r01;".repeat(20) + "o0105;m0;m0;m0;"), -2086);
    Due.is("3: 95 letters", Due.office(x, "s000;" + "o0105;".repeat(15)), 16);
    Due.is("3: 96 letters", Due.office(x, "o0105;".repeat(16)), 16);
    Due.is("3: 96 letters, the last one a fault", Due.office(x, "r01;".repeat(23) + "r01x"), -1095);
    Due.is("3: 96 letters, something lacks", Due.office(x, "r01;".repeat(23) + "s000"), -1096);
    Due.is("3: the 97th is no more of it", Due.office(x, "r01;".repeat(24) + "x"), 24);
    Due.is("2: it was refused", x.count(16), 1);
  }

  /** Each number of each statement just inside, at and outside its range; the place is that of the statement. */
  private static void officeNumbers() {
    String[] taken = {"s000;", "s100;", "s400;", "s500;", "s090;", "s080;", "s010;", "s002;", "s003;", "o0105;", "o3105;",
        "o2105;", "o0205;", "o0405;", "o0505;", "o0100;", "o0101;", "o0129;", "o0130;", "r00;", "r01;", "r08;", "r09;", "r39;",
        "r29;", "m0;", "d01;", "d02;", "d59;", "d60;"};
    String[] refused = {"s600;", "s700;", "s900;", "s004;", "s005;", "s009;", "o4105;", "o9105;", "o0005;", "o0605;", "o0905;",
        "o0131;", "o0132;", "o0199;", "r40;", "r90;", "m1;", "m2;", "m9;", "d00;", "d61;", "d62;", "d99;"};
    for (String statement : taken) {
      Due.is("3: " + statement, Due.office(with(1), statement), 1);
      Due.is("3: behind another, " + statement, Due.office(with(1), "r00;" + statement), 2);
    }
    for (String statement : refused) {
      Due.is("3: " + statement, Due.office(with(1), statement), -2000);
      Due.is("3: behind another, " + statement, Due.office(with(1), "r00;" + statement), -2004);
    }
    Rows.hold(new InTraysPurgatory(), """
        3: tell(m0;) = -2000 no sheets
        3: tell(s582;o3530;r39;) = 3
        5: sheetOf(0, 0) = 5
        5: sheetOf(0, 1) = 8
        5: sheetOf(0, 3) = 2
        4: officialOf(3, 0) = 5
        4: officialOf(3, 1) = 30
        4: officialOf(3, 3) = 9
        3: tell(o3100;r30;) = 2
        4: officialOf(3, 0) = 1
        4: officialOf(3, 1) = 0
        4: officialOf(3, 3) = 0
        """);
  }

  private static InTraysPurgatory with(int sheets) {
    InTraysPurgatory x = new InTraysPurgatory();
    for (int i = 0; i < sheets; i++) x.sheet(0, 0, 0);
    return x;
  }

  /** Room for 9, DAY up to 999, and what the statements ahead have made. */
  private static void officeOfMany() {
    Due.is("3: nine sheets", Due.office(new InTraysPurgatory(), NINE), 9);
    Due.is("3: ten sheets", Due.office(new InTraysPurgatory(), NINE + "s000;"), -2045);
    Due.is("3: a ninth", Due.office(with(8), "s000;"), 1);
    Due.is("3: a ninth and a tenth", Due.office(with(8), "s000;s000;"), -2005);
    Due.is("3: a tenth", Due.office(with(9), "s000;"), -2000);
    Due.is("3: the ninth is mislaid", Due.office(with(9), "m8;"), 1);
    Due.is("3: no ninth", Due.office(with(8), "m8;"), -2000);
    Due.is("3: no tenth", Due.office(with(9), "m9;"), -2000);
    Due.is("3: DAY 998", Due.office(new InTraysPurgatory(), DAY_960 + "d38;"), 17);
    Due.is("3: DAY 999", Due.office(new InTraysPurgatory(), DAY_960 + "d39;"), 17);
    Due.is("3: DAY 1000", Due.office(new InTraysPurgatory(), DAY_960 + "d40;"), -2064);
    InTraysPurgatory x = Due.with(DAY_960 + "d38;");
    Rows.hold(x, """
        3: tell(d02;) = -2000
        3: tell(d01;d01;) = -2004
        44: count(1) = 998
        3: tell(d01;) = 1
        44: count(1) = 999
        3: tell(d01;) = -2000
        """);
    Rows.hold(new InTraysPurgatory(), """
        3: tell(m0;s000;) = -2000 behind what is ahead of it
        3: tell(s000;m0;) = 2
        5: sheetOf(0, 2) = 2
        3: tell(m0;d01;m0;) = -2007 SIGNED on the day ahead of it
        5: sheetOf(0, 2) = 2 nothing of it comes
        44: count(1) = 0
        3: tell(m0;d01;) = 2 told again, it is found
        44: count(3) = 1
        44: count(1) = 1
        3: tell(m0;) = -2000 SIGNED already
        """);
  }

  private static void officialOf() {
    Rows.hold(Due.with("o0530;o3100;r09;r30;" + NINE), """
        4: officialOf(0, 0) = 5
        4: officialOf(3, 0) = 1
        4: officialOf(0, 1) = 30
        4: officialOf(3, 1) = 0
        4: officialOf(0, 3) = 9
        4: officialOf(3, 3) = 0
        4: officialOf(0, 4) = 9
        4: officialOf(3, 4) = 0
        10: days(1) = 5
        4: officialOf(0, 2) = 5
        4: officialOf(0, 4) = 4
        """);
  }

  private static void sheetOf() {
    Rows.hold(Due.with("s000;s593;s000;m2;d01;"), """
        5: sheetOf(0, 0) = 0
        5: sheetOf(1, 0) = 5
        5: sheetOf(0, 1) = 0
        5: sheetOf(1, 1) = 9
        5: sheetOf(0, 2) = 1 SIGNED
        5: sheetOf(1, 3) = 3 who SIGNED it
        5: sheetOf(2, 2) = 2 MISLAID
        5: sheetOf(2, 3) = -9
        5: sheetOf(2, 7) = 0
        5: sheetOf(2, 8) = -2
        5: sheetOf(3, 0) = -1
        8: mislays(2) = 0
        5: sheetOf(2, 2) = 0 it WAITS
        5: sheetOf(2, 3) = 0 whose TRAY
        """);
  }

  private static void sheet() {
    InTraysPurgatory x = new InTraysPurgatory();
    Rows.hold(x, """
        6: sheet(0, 0, 0) = 0
        6: sheet(1, 1, 1) = 1
        6: sheet(4, 8, 2) = 2
        6: sheet(5, 9, 3) = 3
        6: sheet(6, 9, 3) = -2
        6: sheet(5, 10, 3) = -6
        6: sheet(5, 9, 4) = -1
        5: sheetOf(3, 0) = 5
        5: sheetOf(3, 1) = 9
        5: sheetOf(3, 3) = 3
        5: sheetOf(3, 4) = 0
        6: sheet(0, 0, 3) = 4
        12: behind(3, 0, 1) = 0
        12: behind(4, 0, 1) = 1 behind all
        6: sheet(0, 0, 0) = 5
        6: sheet(0, 0, 0) = 6
        6: sheet(0, 0, 0) = 7
        6: sheet(0, 0, 0) = 8 the ninth
        6: sheet(0, 0, 0) = -6 9 there are
        44: count(0) = 9
        10: days(60) = 9
        6: sheet(0, 0, 0) = -6 SIGNED ones, too
        """);
  }

  private static void sets() {
    Rows.hold(new InTraysPurgatory(), """
        7: sets(0, 0, 0) = -4
        7: sets(0, 0, 1) = 1 the least
        7: sets(0, 0, 2) = 1
        7: sets(0, 0, 4) = 2
        7: sets(0, 0, 5) = 4 the greatest
        7: sets(0, 0, 6) = -6
        4: officialOf(0, 0) = 5
        7: sets(3, 1, -1) = -4
        7: sets(3, 1, 0) = 5 the least
        7: sets(3, 1, 1) = 0
        7: sets(3, 1, 29) = 1
        7: sets(3, 1, 30) = 29 the greatest
        7: sets(3, 1, 31) = -6
        4: officialOf(3, 1) = 30
        7: sets(3, 2, -1) = -4
        7: sets(3, 2, 0) = 6 the least
        7: sets(3, 2, 1) = 0
        7: sets(3, 2, 8) = 1
        7: sets(3, 2, 9) = 8 the greatest
        7: sets(3, 2, 10) = -6
        4: officialOf(3, 3) = 9
        4: officialOf(0, 3) = 0
        4: officialOf(0, 1) = 5
        4: officialOf(3, 0) = 1
        """);
  }

  private static void mislays() {
    InTraysPurgatory x = with(9);
    for (int s = 0; s < 9; s++) Due.is("8: how many are MISLAID", x.mislays(s), s + 1);
    Rows.hold(x, """
        4: officialOf(0, 4) = 0
        8: mislays(9) = -1
        8: mislays(8) = 8 found
        8: mislays(0) = 7 found
        12: behind(8, 0, 1) = 0
        12: behind(0, 0, 1) = 1 behind all in the TRAY of 0
        8: mislays(8) = 8
        12: behind(0, 0, 1) = 0
        10: days(1) = 1
        8: mislays(0) = -3 SIGNED
        8: mislays(8) = 7
        """);
    Rows.hold(Due.with("s003;"), """
        8: mislays(0) = 1
        8: mislays(0) = 0
        5: sheetOf(0, 3) = 0 not where it was
        """);
  }

  private static void moves() {
    InTraysPurgatory x = with(9);
    Rows.hold(x, """
        9: moves(0, 0) = 9 his own, alone nothing comes to it
        12: behind(0, 0, 1) = 8
        9: moves(1, 3) = 1 an empty one
        9: moves(1, 3) = 1
        9: moves(8, 3) = 2
        12: behind(8, 0, 1) = 1
        9: moves(9, 3) = -1
        9: moves(8, 4) = -1
        10: days(1) = 2
        9: moves(2, 3) = -3 SIGNED
        8: mislays(3) = 1
        9: moves(3, 3) = -3 MISLAID
        8: mislays(3) = 0
        9: moves(3, 3) = 2 found
        """);
  }

  private static void days() {
    Rows.hold(Due.with("s000;s000;"), """
        10: days(0) = -4
        10: days(1) = 1
        44: count(1) = 1
        10: days(2) = 2
        10: days(59) = 2
        10: days(60) = 2
        10: days(61) = -6
        44: count(1) = 122
        """);
    Rows.hold(Due.with(DAY_960), """
        10: days(40) = -6
        10: days(38) = 0
        44: count(1) = 998
        10: days(2) = -6
        10: days(1) = 0
        44: count(1) = 999
        10: days(1) = -6
        11: back() = 1
        44: count(1) = 998
        10: days(1) = 0
        """);
  }

  /** After 7, 8 and 9 changes: how many can be taken back, and to what. */
  private static void backAtMost() {
    for (int changes = 0; changes <= 18; changes++) {
      InTraysPurgatory x = new InTraysPurgatory();
      x.sets(3, 1, 20);
      x.sheet(0, 0, 0);
      for (int i = 1; i <= changes; i++) x.sets(0, 1, 5 + i);
      int kept = Math.min(8, changes);
      Due.is("44: can be taken back of " + changes, x.count(9), kept);
      for (int i = 1; i <= kept; i++) {
        Due.is("11: back of " + changes, x.back(), kept - i);
        Due.is("11: the latest first", x.officialOf(0, 1), 5 + changes - i);
      }
      Due.is("11: none of " + changes, x.back(), -3);
      Due.is("11: a new one counts", x.sets(0, 1, 30), 5 + changes - kept);
      Due.is("11: a new one counts", x.count(9), 1);
      Due.is("11: it is taken back", x.back(), 0);
      Due.is("11: as it was", x.officialOf(0, 1), 5 + changes - kept);
    }
    InTraysPurgatory x = new InTraysPurgatory();
    for (int i = 1; i <= 8; i++) x.sets(0, 2, i);
    x.back();
    x.back();
    for (int i = 1; i <= 3; i++) x.sets(0, 1, 10 + i);
    Due.is("11: six and three are eight", x.count(9), 8);
    int[] rooms = {6, 6, 6, 5, 4, 3, 2, 1};
    int[] mercies = {12, 11, 5, 5, 5, 5, 5, 5};
    for (int i = 0; i < 8; i++) {
      Due.is("11: back", x.back(), 7 - i);
      Due.is("11: room", x.officialOf(0, 3), rooms[i]);
      Due.is("11: mercy", x.officialOf(0, 1), mercies[i]);
    }
    Due.is("11: the ninth no more", x.back(), -3);
  }

  /** Each of the four, and each where all stays as it was. */
  private static void backOfEach() {
    String before = Witness.face(Due.with("s003;s390;m0;"));
    for (String change : new String[] {"sets(0, 0, 5)", "sets(0, 1, 30)", "sets(0, 2, 9)", "mislays(0)", "mislays(1)",
        "moves(1, 3)", "moves(1, 0)", "days(1)", "days(60)", "sets(0, 0, 1)", "sets(0, 1, 5)", "sets(0, 2, 0)"}) {
      InTraysPurgatory x = Due.with("s003;s390;m0;");
      Rows.answer(x, "11: " + change + " = 0");
      Due.is("11: counts, " + change, x.count(9), 1);
      Due.is("11: back of " + change, x.back(), 0);
      Due.same("11: as ahead of " + change + ": wrong", Witness.face(x), before);
    }
  }

  /** What leaves none, where it is not refused; and what leaves them. */
  private static void leavesNone() {
    for (String call : new String[] {"sheet(0, 0, 0)", "tell(r00;)", "restore()"}) {
      InTraysPurgatory x = twoToTakeBack();
      Rows.answer(x, "11: " + call + " = 0");
      Due.is("11: it leaves none, " + call, x.count(9), 0);
      Due.is("11: none, " + call, x.back(), -3);
    }
    for (String call : new String[] {"sheet(6, 0, 0)", "sheet(0, 10, 0)", "sheet(0, 0, 4)", "tell(r40;)", "tell(x)", "office()",
        "image()", "row(1)", "judge(0)", "clear()", "feed(115)", "sets(0, 0, 6)", "mislays(1)", "moves(0, 4)", "days(0)",
        "days(61)", "lots(20, 1, 0)"}) {
      InTraysPurgatory x = twoToTakeBack();
      Rows.answer(x, "11: " + call + " = 0");
      Due.is("11: it leaves them, " + call, x.count(9), 2);
      Due.is("11: back, " + call, x.back(), 1);
      Due.is("11: back, " + call, x.back(), 0);
    }
    Rows.hold(new InTraysPurgatory(), """
        7: sets(0, 0, 2) = 1
        43: restore() = -3 refused, it leaves them
        11: back() = 0
        """);
  }

  private static InTraysPurgatory twoToTakeBack() {
    InTraysPurgatory x = with(1);
    x.image();
    x.sets(0, 0, 5);
    x.moves(0, 3);
    return x;
  }

  private static void row() {
    Rows.hold(new InTraysPurgatory(), """
        38: row(-1) = -4
        38: row(0) = 1
        38: row(1) = 2
        38: row(98) = 3
        38: row(99) = 4
        38: row(100) = -6
        38: row(5) = 5
        38: row(5) = 6
        38: row(5) = 7
        38: row(5) = 8
        38: row(5) = 9
        38: row(5) = 10
        38: row(5) = 11
        44: count(8) = 11
        38: row(99) = 12 the twelfth
        38: row(5) = -6
        44: count(8) = 12
        40: clear() = 12
        38: row(5) = 1
        """);
  }

  /** Sheets 0 to 8 from ahead: the first wrong at each place, none, fewer and more told than there are. */
  private static void judge() {
    for (int wrong = 0; wrong <= 9; wrong++) {
      InTraysPurgatory x = with(9);
      for (int i = 0; i < 9; i++) x.row(i == wrong ? (i + 1) % 9 : i);
      Due.is("39: wrong at " + wrong, x.judge(0), wrong == 9 ? -9 : wrong);
      Due.is("39: the row has none then", x.count(8), 0);
      Due.is("39: of none", x.judge(0), -9);
    }
    for (int told = 0; told <= 12; told++) {
      InTraysPurgatory x = with(9);
      for (int i = 0; i < told; i++) x.row(i);
      Due.is("39: no more there, " + told, x.judge(0), told > 9 ? 9 : -9);
      Due.is("39: the row has none then", x.clear(), 0);
    }
    Rows.hold(Due.with("s000;s000;s003;"), """
        38: row(0) = 1
        39: judge(4) = -1
        39: judge(-1) = -1
        44: count(8) = 1 it stays
        39: judge(3) = 0 another's
        38: row(2) = 1
        39: judge(3) = -9
        39: judge(1) = -9 an empty TRAY, an empty ROW
        38: row(0) = 1
        39: judge(1) = 0 no more there
        38: row(3) = 1
        39: judge(0) = 0 no such sheet
        10: days(1) = 2
        38: row(0) = 1
        39: judge(0) = 0 SIGNED
        38: row(1) = 1
        39: judge(0) = -9 ahead now
        """);
  }

  private static void clear() {
    InTraysPurgatory x = new InTraysPurgatory();
    for (int told = 0; told <= 12; told++) {
      for (int i = 0; i < told; i++) x.row(i);
      Due.is("40: how many it had", x.clear(), told);
      Due.is("40: none then", x.clear(), 0);
    }
  }

  private static void image() {
    Rows.hold(Due.with("s000;"), """
        43: restore() = -3
        42: image() = 0
        43: restore() = 0
        43: restore() = 0 it stays
        10: days(60) = 1
        42: image() = 60 the later one
        7: sets(0, 0, 5) = 1
        43: restore() = 60
        4: officialOf(0, 0) = 1
        44: count(3) = 1
        """);
    InTraysPurgatory last = Due.with(DAY_960 + "d39;");
    Rows.hold(last, """
        42: image() = 999
        6: sheet(0, 0, 0) = 0
        43: restore() = 999
        44: count(0) = 0
        38: row(7) = 1
        2: feed(115) = 1
        42: image() = 999
        40: clear() = 1
        3: office() = -1001
        5: sheetOf(0, 0) = -1
        43: restore() = 999
        44: count(7) = 0 the letters are not in it
        44: count(8) = 0 nor is the ROW
        44: count(11) = 1 nor are REFUSALS
        """);
    Rows.hold(with(9), """
        42: image() = 0
        9: moves(0, 0) = 9
        8: mislays(4) = 1
        43: restore() = 0
        12: behind(0, 0, 1) = 0 where it was
        12: behind(4, 0, 1) = 4
        44: count(4) = 0
        7: sets(0, 0, 5) = 1
        42: image() = 0
        11: back() = 0
        43: restore() = 0
        4: officialOf(0, 0) = 5 taking back leaves the image
        """);
  }

  private static void count() {
    InTraysPurgatory x = new InTraysPurgatory();
    Rows.hold(x, """
        44: count(-1) = -9
        44: count(0) = 0
        44: count(9) = 0
        44: count(10) = -9
        44: count(11) = 0
        44: count(16) = 0
        44: count(17) = -9
        44: count(-2147483648) = -9
        44: count(2147483647) = -9
        44: count(12) = 0 no refusal
        4: officialOf(4, 0) = -1
        44: count(11) = 1
        4: officialOf(0, 9) = -2
        44: count(12) = 1
        11: back() = -3
        44: count(13) = 1
        10: days(0) = -4
        44: count(14) = 1
        44: count(15) = 0
        38: row(100) = -6
        44: count(16) = 1
        22: heaviest(2) = 1000000002
        34: average(2) = 4000000000000000002
        44: count(12) = 3
        """);
    InTraysPurgatory nine = Due.with("o0530;o1530;" + NINE);
    Rows.hold(nine, """
        44: count(2) = 511
        44: count(3) = 0
        44: count(4) = 0
        8: mislays(8) = 1
        44: count(2) = 255
        44: count(4) = 256
        10: days(1) = 5
        44: count(2) = 224
        44: count(3) = 31
        44: count(5) = 5
        10: days(1) = 8
        44: count(2) = 0
        44: count(3) = 255
        44: count(5) = 8
        44: count(6) = 0
        44: count(1) = 2
        """);
  }
}
