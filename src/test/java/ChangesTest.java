/** Promises 1 to 11, 38, 40 and 42 to 44: what there is, what changes it, and what is taken back. */
public final class ChangesTest {
  public static void main(String[] args) {
    newObject();
    feed();
    officeLetters();
    officeStatements();
    officeWithoutFault();
    officialOf();
    sheetOf();
    kinds();
    sheet();
    sets();
    mislays();
    moves();
    days();
    aDay();
    parts();
    back();
    rowAndClear();
    imageAndRestore();
    count();
    Due.end();
  }

  private static void newObject() {
    InTraysPurgatory x = new InTraysPurgatory();
    for (int i = 0; i <= 9; i++) Due.is("1: count " + i, x.count(i), 0);
    for (int i = 11; i <= 16; i++) Due.is("1: count " + i, x.count(i), 0);
    for (int o = 0; o < 4; o++) {
      Due.is("1: pace", x.officialOf(o, 0), 1);
      Due.is("1: mercy", x.officialOf(o, 1), 5);
      Due.is("1: borne", x.officialOf(o, 2), 0);
      Due.is("1: room", x.officialOf(o, 3), 2 * o);
      Due.is("1: waiting", x.officialOf(o, 4), 0);
    }
  }

  private static void feed() {
    InTraysPurgatory x = new InTraysPurgatory();
    Due.is("2: feed below", x.feed(-1), -4);
    Due.is("2: feed far below", x.feed(Integer.MIN_VALUE), -4);
    Due.is("2: feed above", x.feed(256), -6);
    Due.is("2: feed far above", x.feed(Integer.MAX_VALUE), -6);
    Due.is("2: feed 0", x.feed(0), 1);
    Due.is("2: feed 255", x.feed(255), 2);
    for (int i = 3; i <= 96; i++) Due.is("2: feed", x.feed('s'), i);
    Due.is("2: feed a 97th", x.feed('s'), -6);
    Due.is("2: feed below, full", x.feed(-1), -4);
    Due.is("2: letters", x.count(7), 96);
    Due.is("2: office of them", x.office(), -1000);
    Due.is("2: letters then", x.count(7), 0);
    Due.is("2: feed again", x.feed('s'), 1);
  }

  private static void officeLetters() {
    String[] texts = {"", "x", "S", ";", " ", "0", "s", "s0", "s00", "s000", "s000,", "s0000", "sx", "s0x", "s00x", "s000;;",
        "s000;x", "s000;s", "o", "o0", "o01", "o010", "o0105", "o01055", "o0x", "o01:5;", "o010/;", "r", "r0", "r00",
        "r000", "m", "m0", "m00", "m;", "d", "d1", "d01", "d1;", "d011", "s900;x", "m0;d99;r"};
    int[] places = {0, 0, 0, 0, 0, 0, 1, 2, 3, 4, 4, 4, 1, 2, 3, 5,
        5, 6, 1, 2, 3, 4, 5, 5, 2, 3, 4, 1, 2, 3,
        3, 1, 2, 2, 1, 1, 2, 3, 2, 3, 5, 8};
    InTraysPurgatory x = new InTraysPurgatory();
    for (int i = 0; i < texts.length; i++) {
      Due.is("3: office " + texts[i], Due.office(x, texts[i]), -1000 - places[i]);
      Due.is("3: letters", x.count(7), 0);
    }
    Due.is("3: office of 96 letters, the last lacks something", Due.office(x, "s000;".repeat(19) + "s"), -1096);
    Due.is("3: no sheet came", x.count(0), 0);
    for (int i = 11; i <= 16; i++) Due.is("3: a FAULT is not counted", x.count(i), 0);
    Due.is("3: office of 96 letters", Due.office(x, "r01;".repeat(24)), 24);
  }

  private static void officeStatements() {
    String sixteen = "d60;d60;d60;d60;d60;d60;d60;d60;d60;d60;d60;d60;d60;d60;d60;d60;";
    String nine = "s000;s000;s000;s000;s000;s000;s000;s000;s000;";
    String[] texts = {"s600;", "s004;", "o4105;", "o0005;", "o0605;", "o0131;", "r40;", "m0;", "d00;", "d61;",
        "s000;m0;m1;", "s000;d01;m0;", nine + "s000;", sixteen + "d60;", sixteen + "d40;", "r19;s999;m7;", "m0;s000;"};
    int[] places = {0, 0, 0, 0, 0, 0, 0, 0, 0, 0, 8, 9, 45, 64, 64, 4, 0};
    InTraysPurgatory x = new InTraysPurgatory();
    x.sets(0, 2, 3);
    for (int i = 0; i < texts.length; i++) {
      Due.is("3: office " + texts[i], Due.office(x, texts[i]), -2000 - places[i]);
      Due.is("3: letters", x.count(7), 0);
      Due.is("3: no sheet came", x.count(0), 0);
      Due.is("3: no day went by", x.count(1), 0);
      Due.is("3: no room changed", x.officialOf(1, 3), 2);
    }
    for (int i = 11; i <= 16; i++) Due.is("3: a FAULT is not counted", x.count(i), 0);
    Due.is("3: with a FAULT it can be taken back", x.back(), 0);
    Due.is("3: up to day 999", Due.office(x, sixteen + "d39;"), 17);
    Due.is("3: day 999", x.count(1), 999);
    Due.is("3: a day more", Due.office(x, "d01;"), -2000);
  }

  private static void officeWithoutFault() {
    InTraysPurgatory x = new InTraysPurgatory();
    x.sets(0, 2, 3);
    Due.is("3: office", Due.office(x, "s001;s070;s511;o2430;o0200;r39;m0;m0;m2;d01;"), 10);
    Due.is("3: nothing to be taken back", x.back(), -3);
    Due.is("3: sheets", x.count(0), 3);
    Due.is("3: day", x.count(1), 1);
    Due.is("3: mislaid", x.count(4), 4);
    Due.is("3: pace", x.officialOf(2, 0), 4);
    Due.is("3: mercy", x.officialOf(2, 1), 30);
    Due.is("3: room", x.officialOf(3, 3), 9);
    // sheet 0 was found behind sheet 1 in the tray of 0: both passed on by 0, then 1 passed sheet 1 on, 2 signed it
    Due.is("3: sheet 1 signed by", x.sheetOf(1, 3), 2);
    Due.is("3: minutes of sheet 1", x.sheetOf(1, 4), 2);
    Due.is("3: sheet 0 waits", x.sheetOf(0, 2), 0);
    Due.is("3: sheet 0 in tray", x.sheetOf(0, 3), 1);
    Due.is("3: minutes of sheet 0", x.sheetOf(0, 4), 1);
    Due.is("3: a text without FAULT leaves a FAULT out", Due.office(x, "m0;m0;m0;"), 3);
    Due.is("3: told three times", x.count(4), 5);
  }

  private static void officialOf() {
    InTraysPurgatory x = Due.with("o3227;r38;s003;s013;s023;d01;");
    Due.is("4: pace", x.officialOf(3, 0), 2);
    Due.is("4: mercy", x.officialOf(3, 1), 27);
    Due.is("4: borne", x.officialOf(3, 2), 2);
    Due.is("4: room", x.officialOf(3, 3), 8);
    Due.is("4: waiting", x.officialOf(3, 4), 1);
    Due.is("4: nobody", x.officialOf(4, 5), -1);
    Due.is("4: nobody", x.officialOf(-1, 0), -1);
    Due.is("4: other", x.officialOf(3, 5), -2);
    Due.is("4: other", x.officialOf(0, -1), -2);
    Due.is("4: refusals -1", x.count(11), 2);
    Due.is("4: refusals -2", x.count(12), 2);
  }

  private static void sheetOf() {
    InTraysPurgatory x = Due.with("s031;s192;s200;s200;m2;d01;");
    int[][] due = {{0, 3, 0, 2, 1, 6, 1, 0}, {1, 9, 0, 0, 2, 16, 2, 2}, {2, 0, 2, -9, 0, 1, 0, 1}, {2, 0, 1, 0, 0, 1, 0, 1}};
    for (int s = 0; s < 4; s++) {
      for (int what = 0; what < 8; what++) Due.is("5: sheetOf " + s + " " + what, x.sheetOf(s, what), due[s][what]);
    }
    Due.is("5: nobody", x.sheetOf(4, 8), -1);
    Due.is("5: nobody", x.sheetOf(-1, 0), -1);
    Due.is("5: other", x.sheetOf(0, 8), -2);
    Due.is("5: other", x.sheetOf(0, -1), -2);
  }

  /** One sheet of each kind, alone with officials of no mercy. */
  private static void kinds() {
    int[] weight = {10, 14, 5, 20, 21, 0};
    int[] haste = {0, 2, 1, 0, 1, 1};
    int[] minutes = {5, 5, 5, 2, 5, 0};
    int[] rings = {5, 5, 5, 0, 2, 0};
    int[] at = {0, 0, 0, 3, 0, 3};
    for (int kind = 0; kind < 6; kind++) {
      InTraysPurgatory x = Due.with("o0100;o1100;o2100;o3100;");
      x.sheet(kind, 7, 3);
      Due.is("10: days", x.days(2), kind == 5 ? 1 : 0);
      Due.is("5: weight", x.sheetOf(0, 5), weight[kind]);
      Due.is("5: haste", x.sheetOf(0, 7), haste[kind]);
      Due.is("5: minutes of " + kind, x.sheetOf(0, 4), minutes[kind]);
      Due.is("5: rings of " + kind, x.sheetOf(0, 6), rings[kind]);
      Due.is("5: where " + kind, x.sheetOf(0, 3), at[kind]);
      Due.is("5: figure", x.sheetOf(0, 1), 7);
      Due.is("5: kind", x.sheetOf(0, 0), kind);
    }
    InTraysPurgatory x = Due.with("s391;d60;d39;");
    Due.is("5: minutes", x.sheetOf(0, 4), 99);
    x.days(1);
    Due.is("5: minutes at most", x.sheetOf(0, 4), 99);
  }

  private static void sheet() {
    InTraysPurgatory x = new InTraysPurgatory();
    x.sets(0, 0, 2);
    Due.is("6: other", x.sheet(6, -1, 9), -2);
    Due.is("6: other", x.sheet(-1, 10, 9), -2);
    Due.is("6: below", x.sheet(0, -1, 9), -4);
    Due.is("6: above", x.sheet(0, 10, 9), -6);
    Due.is("6: nobody", x.sheet(0, 0, 4), -1);
    Due.is("6: nobody", x.sheet(0, 0, -1), -1);
    Due.is("6: refused ones leave what can be taken back", x.count(9), 1);
    Due.is("6: sheet", x.sheet(5, 9, 3), 0);
    Due.is("6: it leaves none", x.back(), -3);
    for (int s = 1; s < 9; s++) Due.is("6: sheet", x.sheet(0, 0, 0), s);
    Due.is("6: no room", x.sheet(0, 0, 0), -6);
    Due.is("6: no room ahead of nobody", x.sheet(0, 0, 4), -6);
    Due.is("6: below ahead of no room", x.sheet(0, -1, 0), -4);
    Due.is("6: behind all", x.behind(8, 0, 1), 7);
  }

  private static void sets() {
    InTraysPurgatory x = new InTraysPurgatory();
    Due.is("7: nobody", x.sets(4, 3, -1), -1);
    Due.is("7: nobody", x.sets(-1, 0, 1), -1);
    Due.is("7: other", x.sets(0, 3, -1), -2);
    Due.is("7: other", x.sets(0, -1, 1), -2);
    int[] least = {1, 0, 0};
    int[] most = {5, 30, 9};
    int[] was = {1, 5, 4};
    int[] of = {0, 1, 3};
    for (int what = 0; what < 3; what++) {
      Due.is("7: below", x.sets(2, what, least[what] - 1), -4);
      Due.is("7: above", x.sets(2, what, most[what] + 1), -6);
      Due.is("7: nothing changed", x.officialOf(2, of[what]), was[what]);
      Due.is("7: the most", x.sets(2, what, most[what]), was[what]);
      Due.is("7: the least", x.sets(2, what, least[what]), most[what]);
      Due.is("7: set", x.officialOf(2, of[what]), least[what]);
    }
    Due.is("7: can be taken back", x.count(9), 6);
    Due.is("7: others as they were", x.officialOf(1, 1), 5);
  }

  private static void mislays() {
    InTraysPurgatory x = Due.with("s001;s090;s000;");
    Due.is("8: nobody", x.mislays(3), -1);
    Due.is("8: nobody", x.mislays(-1), -1);
    Due.is("8: mislaid", x.mislays(0), 1);
    Due.is("8: mislaid", x.mislays(2), 2);
    Due.is("8: state", x.sheetOf(0, 2), 2);
    Due.is("8: official", x.sheetOf(0, 3), -9);
    Due.is("8: tray", x.officialOf(1, 4), 0);
    Due.is("8: found", x.mislays(0), 1);
    Due.is("8: in the tray of 0", x.sheetOf(0, 3), 0);
    Due.is("8: behind all", x.behind(0, 0, 1), 1);
    Due.is("8: can be taken back", x.count(9), 3);
    InTraysPurgatory y = Due.with("s000;d01;");
    Due.is("8: signed", y.mislays(0), -3);
    Due.is("8: refused, not to be taken back", y.count(9), 0);
    InTraysPurgatory z = Due.with("s090;d01;m0;m0;");
    Due.is("8: minutes stay", z.sheetOf(0, 4), 4);
  }

  private static void moves() {
    InTraysPurgatory x = Due.with("s001;s001;s002;s003;m3;");
    Due.is("9: nobody", x.moves(4, 0), -1);
    Due.is("9: nobody", x.moves(-1, 0), -1);
    Due.is("9: nobody", x.moves(0, 4), -1);
    Due.is("9: nobody ahead of state", x.moves(3, -1), -1);
    Due.is("9: mislaid", x.moves(3, 0), -3);
    Due.is("9: his own", x.moves(0, 1), 2);
    Due.is("9: behind all", x.behind(0, 0, 1), 1);
    Due.is("9: another's", x.moves(0, 2), 2);
    Due.is("9: behind all", x.behind(0, 0, 1), 1);
    Due.is("9: the other is ahead", x.behind(1, 0, 1), 0);
    Due.is("9: can be taken back", x.count(9), 2);
    x.days(1);
    Due.is("9: signed", x.moves(1, 0), -3);
    Due.is("9: refusals", x.count(13), 2);
  }

  private static void days() {
    InTraysPurgatory x = Due.with("s000;s000;s393;");
    Due.is("10: below", x.days(0), -4);
    Due.is("10: below", x.days(Integer.MIN_VALUE), -4);
    Due.is("10: above", x.days(61), -6);
    Due.is("10: far above", x.days(Integer.MAX_VALUE), -6);
    Due.is("10: one signed", x.days(1), 1);
    Due.is("10: signed in all", x.days(1), 2);
    Due.is("10: no more", x.days(58), 2);
    for (int i = 0; i < 15; i++) Due.is("10: days", x.days(60), 2);
    Due.is("10: day", x.count(1), 960);
    Due.is("10: above 999", x.days(40), -6);
    Due.is("10: to 999", x.days(39), 2);
    Due.is("10: day", x.count(1), 999);
    Due.is("10: no day more", x.days(1), -6);
    Due.is("10: day", x.count(1), 999);
  }

  /** Haste, places, pace, passing on round, and what lay there as the day was begun. */
  private static void aDay() {
    InTraysPurgatory x = Due.with("o0130;s000;s200;s100;s500;s400;");
    int[] order = {2, 1, 3, 4, 0};
    for (int s : order) {
      x.days(1);
      Due.is("I: signed by haste, then by place: " + s, x.sheetOf(s, 2), 1);
    }
    InTraysPurgatory paced = Due.with("o0330;s000;s000;s000;s000;s000;");
    Due.is("I: pace", paced.days(1), 3);
    Due.is("I: those ahead", paced.count(3), 7);
    InTraysPurgatory same = Due.with("o0100;s000;");
    same.days(1);
    Due.is("I: passed on and signed in one day", same.sheetOf(0, 3), 1);
    InTraysPurgatory round = Due.with("o3100;o0530;s003;");
    Due.is("I: passed on round is taken a day later", round.days(1), 0);
    Due.is("I: it lies with 0", round.sheetOf(0, 3), 0);
    Due.is("I: and is signed then", round.days(1), 1);
    InTraysPurgatory carbon = Due.with("o2500;s392;s002;");
    carbon.days(1);
    Due.is("I: a CARBON is taken once a day", carbon.sheetOf(0, 4), 1);
    Due.is("I: the next was taken too", carbon.sheetOf(1, 3), 3);
    InTraysPurgatory behind = Due.with("o2100;s392;s392;");
    behind.days(1);
    Due.is("I: a CARBON goes behind all", behind.behind(0, 0, 1), 1);
    Due.is("I: the other is ahead", behind.behind(1, 0, 1), 0);
  }

  private static void parts() {
    int[] ofNine = {4, 5, 2, 8, 25, 0};
    int[] ofOne = {1, 2, 0, 2, 9, 0};
    for (int kind = 0; kind < 6; kind++) {
      InTraysPurgatory x = Due.with("o0130;o1130;");
      x.sheet(kind, 9, 0);
      x.sheet(kind, 1, 1);
      x.days(1);
      Due.is("I: part of a nine of kind " + kind, x.officialOf(0, 2), ofNine[kind]);
      Due.is("I: part of a one of kind " + kind, x.officialOf(1, 2), ofOne[kind]);
    }
    InTraysPurgatory saint = Due.with("o0330;s190;s500;s500;d01;");
    Due.is("I: a SAINT takes one off", saint.officialOf(0, 2), 3);
    InTraysPurgatory edge = Due.with("o2108;o3107;s052;s053;d01;");
    Due.is("I: willing at the edge", edge.sheetOf(0, 3), 2);
    Due.is("I: not willing beyond it", edge.sheetOf(1, 3), 0);
  }

  private static void back() {
    InTraysPurgatory x = Due.with("s000;s090;");
    Due.is("11: none", x.back(), -3);
    for (int i = 0; i < 9; i++) x.sets(0, 2, i);
    Due.is("11: at most", x.count(9), 8);
    for (int i = 7; i >= 0; i--) {
      Due.is("11: back", x.back(), i);
      Due.is("11: room", x.officialOf(0, 3), i);
    }
    Due.is("11: older ones no more", x.back(), -3);
    Due.is("11: refusals", x.count(13), 2);
    x.moves(0, 0);
    x.days(2);
    x.mislays(1);
    x.feed('s');
    x.row(7);
    Due.is("11: three", x.count(9), 3);
    Due.is("11: back", x.back(), 2);
    Due.is("11: waits again", x.sheetOf(1, 2), 0);
    Due.is("11: where it was", x.sheetOf(1, 3), 0);
    Due.is("11: its minutes", x.sheetOf(1, 4), 4);
    Due.is("11: back", x.back(), 1);
    Due.is("11: day", x.count(1), 0);
    Due.is("11: not signed", x.count(3), 0);
    Due.is("11: not borne", x.count(5), 0);
    Due.is("11: no minutes", x.count(6), 0);
    Due.is("11: back", x.back(), 0);
    Due.is("11: ahead again", x.behind(0, 0, 1), 0);
    Due.is("11: letters stay", x.count(7), 1);
    Due.is("11: the row stays", x.count(8), 1);
    Due.is("11: also if all stays", x.sets(0, 0, 1), 1);
    Due.is("11: it counts", x.count(9), 1);
    x.sets(0, 0, 9);
    x.days(0);
    Due.is("11: refused ones do not", x.count(9), 1);
  }

  private static void rowAndClear() {
    InTraysPurgatory x = new InTraysPurgatory();
    Due.is("38: below", x.row(-1), -4);
    Due.is("38: above", x.row(100), -6);
    Due.is("40: none", x.clear(), 0);
    Due.is("38: one", x.row(99), 1);
    for (int i = 2; i <= 12; i++) Due.is("38: row", x.row(0), i);
    Due.is("38: a 13th", x.row(0), -6);
    Due.is("38: below, full", x.row(-1), -4);
    Due.is("38: in the row", x.count(8), 12);
    Due.is("40: clear", x.clear(), 12);
    Due.is("40: none then", x.count(8), 0);
    Due.is("38: again", x.row(5), 1);
  }

  private static void imageAndRestore() {
    InTraysPurgatory x = Due.with("s000;s092;d02;");
    Due.is("43: no image", x.restore(), -3);
    Due.is("42: image", x.image(), 2);
    x.sets(3, 1, 30);
    x.sets(3, 0, 3);
    x.sets(3, 2, 0);
    x.days(5);
    x.mislays(9);
    x.row(4);
    x.feed('d');
    Due.is("43: restored", x.restore(), 2);
    Due.is("43: day", x.count(1), 2);
    Due.is("43: waits", x.count(2), 2);
    Due.is("43: signed", x.count(3), 1);
    Due.is("43: mercy", x.officialOf(3, 1), 5);
    Due.is("43: pace", x.officialOf(3, 0), 1);
    Due.is("43: room", x.officialOf(3, 3), 6);
    Due.is("43: nothing to be taken back", x.count(9), 0);
    Due.is("43: the row stays", x.count(8), 1);
    Due.is("43: letters stay", x.count(7), 1);
    Due.is("43: refusals stay", x.count(11), 1);
    Due.is("43: refusals stay", x.count(13), 1);
    x.days(5);
    Due.is("43: once more", x.restore(), 2);
    x.days(1);
    Due.is("42: a later image", x.image(), 3);
    Due.is("42: leaves what can be taken back", x.back(), 0);
    Due.is("43: the later one", x.restore(), 3);
  }

  private static void count() {
    InTraysPurgatory x = Due.with("o0130;s000;s090;s093;s392;m2;d01;");
    x.row(1);
    x.feed('s');
    x.feed('s');
    x.sets(0, 0, 1);
    x.feed(-1);
    x.feed(256);
    x.days(61);
    x.who(9);
    x.who(8);
    x.who(7);
    x.fair(3);
    x.restore();
    int[] due = {4, 1, 10, 1, 4, 1, 1, 2, 1, 1};
    for (int i = 0; i < due.length; i++) Due.is("44: count " + i, x.count(i), due[i]);
    int[] refusals = {3, 1, 1, 1, 0, 2};
    for (int i = 0; i < 6; i++) Due.is("44: refusals", x.count(11 + i), refusals[i]);
    for (int i : new int[] {-1, 10, 17, Integer.MIN_VALUE, Integer.MAX_VALUE}) Due.is("44: another", x.count(i), -9);
    Due.is("44: another is no refusal", x.count(12), 1);
  }
}
