/** Promises 21 to 31, 34, 39 and 41: shares, rows, the trolley, two officials, chance and lots. */
public final class ChoicesTest {
  public static void main(String[] args) {
    fair();
    heaviest();
    whose();
    which();
    trolley();
    two();
    holidays();
    fullest();
    longest();
    top();
    queue();
    average();
    judge();
    lots();
    Due.end();
  }

  private static void fair() {
    InTraysPurgatory x = Due.with("o0130;s490;s091;d01;");
    // 0 bears 25 now; sheet 1 goes round to him
    Due.is("21: fair", x.fair(0), 25);
    Due.is("21: shared", x.fair(1), 6);
    Due.is("21: left over", x.fair(2), 1);
    x.days(1);
    Due.is("21: fair", x.fair(0), 29);
    Due.is("21: shared", x.fair(1), 7);
    Due.is("21: left over", x.fair(2), 1);
    Due.is("21: other", x.fair(3), -2);
    Due.is("21: other", x.fair(-1), -2);
    InTraysPurgatory all = Due.with("s000;s001;s002;s003;d01;");
    Due.is("21: all alike", all.fair(0), 0);
    Due.is("21: shared", all.fair(1), 1);
  }

  private static void heaviest() {
    InTraysPurgatory x = Due.with("s000;s190;s391;s391;m2;");
    Due.is("22: heaviest that waits", x.heaviest(0), 3);
    Due.is("22: that", x.heaviest(1), 24);
    x.mislays(3);
    Due.is("22: heaviest", x.heaviest(0), 1);
    Due.is("22: that", x.heaviest(1), 16);
    x.days(1);
    Due.is("22: less rings", x.heaviest(1), 12);
    Due.is("22: other", x.heaviest(2), 1000000002);
    Due.is("22: other", x.heaviest(-1), 1000000002);
    Due.is("22: refusals", x.count(12), 2);
    Due.is("22: of several the least", Due.with("s030;s000;s031;").heaviest(0), 0);
    Due.is("22: that of sheet 0", Due.with("s030;s000;s031;").heaviest(1), 6);
    InTraysPurgatory none = Due.with("s000;m0;");
    Due.is("22: none", none.heaviest(0), -9);
    Due.is("22: none", none.heaviest(1), -9);
    Due.is("22: a SAINT", Due.with("s500;").heaviest(1), 0);
    InTraysPurgatory light = Due.with("o0100;o1100;o2100;o3100;s200;s000;s090;d03;");
    Due.is("22: signed ones do not count", light.heaviest(0), 2);
    Due.is("22: less rings", light.heaviest(1), 8);
  }

  private static void whose() {
    InTraysPurgatory x = Due.with("s000;s000;s000;");
    Due.is("23: no row, all paces", x.whose(0, 0), 62);
    Due.is("23: no row, all mercies", x.whose(0, 1), 31);
    Due.is("23: no row, the least", x.whose(0, 2), 0);
    Due.row(x, 3, 1);
    Due.is("23: pace 2", x.whose(0, 0), 4);
    Due.is("23: the row stays", x.count(8), 2);
    Due.row(x, 3, 0);
    Due.is("23: paces 3 to 5", x.whose(0, 0), 56);
    Due.row(x, 3, 2, 1, 0, 0, 0, 0, 0, 0, 0, 0, 0);
    Due.is("23: a row of twelve", x.whose(0, 0), 2);
    Due.row(x, 2);
    Due.is("23: not so now", x.whose(0, 0), 0);
    Due.is("23: no mercy", x.whose(0, 1), 0);
    Due.is("23: no least", x.whose(0, 2), -9);
    InTraysPurgatory heavy = Due.with("s090;");
    Due.row(heavy, 1, 0);
    Due.is("23: mercies 12 to 30", heavy.whose(0, 1), 19);
    Due.is("23: the least", heavy.whose(0, 2), 12);
    Due.row(heavy, 1, 1);
    Due.is("23: mercies 0 to 11", heavy.whose(0, 1), 12);
    Due.is("23: the least", heavy.whose(0, 2), 0);
    Due.is("23: nobody", x.whose(4, 3), -1);
    Due.is("23: nobody", x.whose(-1, 0), -1);
    Due.is("23: other", x.whose(0, 3), -2);
    Due.is("23: other", x.whose(0, -1), -2);
  }

  private static void which() {
    InTraysPurgatory x = Due.with("s041;");
    Due.is("24: no row, all kinds", x.which(0, 0), 63);
    Due.is("24: no row, all figures", x.which(0, 1), 1023);
    Due.row(x, 1, 9);
    Due.is("24: signed on the first day", x.which(0, 0), 37);
    Due.is("24: figures 0 to 4", x.which(0, 1), 31);
    Due.is("24: the row stays", x.count(8), 2);
    Due.row(x, 1, 0);
    Due.is("24: gone round to 0", x.which(0, 0), 18);
    Due.is("24: figures 5 to 9", x.which(0, 1), 992);
    Due.row(x, 1, 1);
    Due.is("24: a CARBON", x.which(0, 0), 8);
    Due.row(x, 9);
    Due.is("24: not so now", x.which(0, 0), 0);
    x.mislays(0);
    Due.is("24: mislaid", x.which(0, 0), 63);
    Due.is("24: mislaid", x.which(0, 1), 1023);
    Due.is("24: nobody", x.which(1, 2), -1);
    Due.is("24: nobody", x.which(-1, 0), -1);
    Due.is("24: other", x.which(0, 2), -2);
    Due.is("24: other", x.which(0, -1), -2);
  }

  private static void trolley() {
    InTraysPurgatory x = new InTraysPurgatory();
    Due.is("25: no way", x.trolley(-1), 0);
    Due.is("25: none", x.trolley(0), -9);
    Due.is("25: below", x.trolley(-2), -4);
    Due.is("25: below", x.trolley(Integer.MIN_VALUE), -4);
    Due.is("25: far beyond", x.trolley(Integer.MAX_VALUE), -9);
    order(Due.with("s001;s003;"), 6, 1, 3);
    order(Due.with("r19;r32;s001;s003;"), 9, 3, 1);
    order(Due.with("r05;r12;r25;s000;s001;s002;"), 5, 1, 0, 2);
    order(Due.with("r09;r11;r28;r30;s000;s001;s002;s003;"), 9, 3, 1, 2, 0);
    order(Due.with("r05;r15;r25;r35;s000;s001;s002;s003;s000;"), 5, 0, 1, 2, 3);
    order(Due.with("s000;s001;s003;m1;"), 6, 0, 3);
    order(Due.with("r10;r30;s003;s000;s001;"), 0, 0, 1, 3);
    order(Due.with("s000;"), 0, 0);
  }

  private static void order(InTraysPurgatory x, int way, int... officials) {
    Due.is("25: way", x.trolley(-1), way);
    for (int i = 0; i < officials.length; i++) Due.is("25: " + i, x.trolley(i), officials[i]);
    Due.is("25: no more", x.trolley(officials.length), -9);
  }

  private static void two() {
    InTraysPurgatory x = Due.with("o0104;o1205;o2204;o3103;s121;s551;");
    // 1 bears 2 in all, if he signs both at once; 3, if the SAINT comes first
    Due.is("26: the other has more", x.two(0, 1), 1);
    Due.is("26: the one has more", x.two(1, 0), 10);
    Due.is("26: neither", x.two(0, 2), 0);
    Due.is("26: 5 more are enough", Due.with("o0102;o1205;o2204;o3103;s131;s551;").two(0, 1), 1);
    Due.is("26: 5 more are not enough", Due.with("o0102;o1205;o2204;o3103;s141;s551;").two(0, 1), 0);
    Due.is("26: of no sheets", new InTraysPurgatory().two(3, 2), 0);
    Due.is("26: one twice", x.two(1, 1), -1);
    Due.is("26: nobody", x.two(4, 1), -1);
    Due.is("26: nobody", x.two(1, 4), -1);
    Due.is("26: nobody", x.two(-1, 0), -1);
    Due.is("26: refusals", x.count(11), 4);
    Due.is("26: only in mind", x.officialOf(0, 1), 4);
  }

  private static void fraction(InTraysPurgatory x, int official, int n, int t, long above, long below) {
    Due.is("27: above", x.holidays(official, 0, n, t, 0), above);
    Due.is("27: below", x.holidays(official, 0, n, t, 1), below);
  }

  private static void holidays() {
    InTraysPurgatory x = Due.with("s000;");
    fraction(x, 0, 0, 2, 0, 1);
    fraction(x, 0, 1, 2, 1, 2);
    fraction(x, 0, 2, 3, 8, 9);
    fraction(x, 0, 6, 20, 63999999, 64000000);
    fraction(x, 1, 3, 2, 1, 1);
    x.days(1);
    fraction(x, 0, 0, 2, 1, 1);
    fraction(x, 0, 6, 20, 1, 1);
    // it needs two days of 0, of three: 3 times 1/4 times 9/16, and 27/64
    fraction(Due.with("s000;s000;m0;m0;"), 0, 3, 4, 27, 32);
    fraction(Due.with("s392;"), 0, 6, 2, 0, 1);
    Due.is("27: nobody", x.holidays(4, 0, -1, 1, 2), 4000000000000000001L);
    Due.is("27: nobody", x.holidays(0, 1, -1, 1, 2), 4000000000000000001L);
    Due.is("27: nobody", x.holidays(-1, -1, 0, 2, 0), 4000000000000000001L);
    Due.is("27: below", x.holidays(0, 0, -1, 21, 2), 4000000000000000004L);
    Due.is("27: below", x.holidays(0, 0, 7, 1, 2), 4000000000000000004L);
    Due.is("27: above", x.holidays(0, 0, 7, 2, 2), 4000000000000000006L);
    Due.is("27: above", x.holidays(0, 0, 0, 21, 2), 4000000000000000006L);
    Due.is("27: other", x.holidays(0, 0, 0, 2, 2), 4000000000000000002L);
    Due.is("27: other", x.holidays(0, 0, 0, 2, -1), 4000000000000000002L);
    int[] refusals = {3, 2, 0, 2, 0, 2};
    for (int i = 0; i < 6; i++) Due.is("27: refusals", x.count(11 + i), refusals[i]);
  }

  private static void fullest() {
    InTraysPurgatory x = Due.with("s000;s002;s002;s003;s003;s000;s000;m0;m5;m6;");
    Due.is("28: fullest", x.fullest(0), 2);
    Due.is("28: how many", x.fullest(1), 2);
    InTraysPurgatory one = Due.with("s001;s001;s001;s003;s003;");
    Due.is("28: fullest", one.fullest(0), 1);
    Due.is("28: how many", one.fullest(1), 3);
    Due.is("28: other", x.fullest(2), -2);
    Due.is("28: other", x.fullest(-1), -2);
    Due.is("28: none", new InTraysPurgatory().fullest(0), 0);
    Due.is("28: none", new InTraysPurgatory().fullest(1), 0);
  }

  private static void longest() {
    InTraysPurgatory x = Due.with("s092;s391;s391;d01;");
    Due.is("29: longest", x.longest(0), 0);
    Due.is("29: minutes", x.longest(1), 2);
    x.mislays(0);
    Due.is("29: that waits", x.longest(0), 1);
    Due.is("29: minutes", x.longest(1), 1);
    x.days(1);
    Due.is("29: of several the least", x.longest(0), 1);
    Due.is("29: other", x.longest(2), -2);
    Due.is("29: other", x.longest(-1), -2);
    InTraysPurgatory none = Due.with("s090;d03;");
    Due.is("29: none", none.longest(0), -9);
    Due.is("29: none", none.longest(1), -9);
  }

  private static void top() {
    InTraysPurgatory x = Due.with("s000;s200;s400;s100;s001;");
    Due.is("30: by haste", x.top(0), 3);
    x.mislays(3);
    Due.is("30: the one ahead", x.top(0), 1);
    x.moves(1, 0);
    Due.is("30: the one ahead", x.top(0), 2);
    Due.is("30: another's", x.top(1), 4);
    Due.is("30: none", x.top(2), -9);
    Due.is("30: nobody", x.top(4), -1);
    Due.is("30: nobody", x.top(-1), -1);
  }

  private static void queue() {
    InTraysPurgatory x = Due.with("s000;s200;s400;s100;s001;s500;s300;m1;m1;");
    int[] due = {4, 3, 1, 0, -9, 2, 5};
    for (int s = 0; s < due.length; s++) Due.is("31: queue " + s, x.queue(0, s), due[s]);
    Due.is("31: another's", x.queue(1, 4), 0);
    Due.is("31: nobody", x.queue(4, 0), -1);
    Due.is("31: nobody", x.queue(0, 7), -1);
    Due.is("31: nobody", x.queue(0, -1), -1);
    x.mislays(0);
    Due.is("31: mislaid", x.queue(0, 0), -9);
    Due.is("31: no more ahead", x.queue(0, 6), 4);
    Due.is("31: signed", Due.with("s000;d01;").queue(0, 0), -9);
  }

  private static void average() {
    Due.is("34: none", new InTraysPurgatory().average(0), 0);
    Due.is("34: none", new InTraysPurgatory().average(1), 1);
    InTraysPurgatory x = Due.with("s000;s091;d01;");
    Due.is("34: above", x.average(0), 3);
    Due.is("34: below", x.average(1), 2);
    x.days(1);
    x.sheet(0, 0, 0);
    x.sheet(0, 0, 0);
    x.mislays(1);
    Due.is("34: above, of all", x.average(0), 7);
    Due.is("34: below, of all", x.average(1), 4);
    InTraysPurgatory y = Due.with("s393;s393;d02;");
    Due.is("34: lowest terms", y.average(0), 1);
    Due.is("34: lowest terms", y.average(1), 1);
    InTraysPurgatory zero = Due.with("s000;s000;s000;");
    Due.is("34: no minutes", zero.average(0), 0);
    Due.is("34: no minutes", zero.average(1), 1);
    Due.is("34: other", x.average(2), 4000000000000000002L);
    Due.is("34: other", x.average(-1), 4000000000000000002L);
    Due.is("34: refusals", x.count(12), 2);
  }

  private static void judge() {
    InTraysPurgatory x = Due.with("s001;s000;s001;s001;m0;m0;");
    int[][] rows = {{}, {2, 3}, {2}, {3}, {2, 2}, {2, 3, 1}, {1, 0}, {99}, {2, 3, 9}};
    int[] official = {1, 1, 1, 1, 1, 1, 0, 0, 1};
    int[] due = {-9, -9, -9, 0, 1, 2, -9, 0, 2};
    for (int i = 0; i < rows.length; i++) {
      Due.row(x, rows[i]);
      Due.is("39: nobody", x.judge(4), -1);
      Due.is("39: nobody", x.judge(-1), -1);
      Due.is("39: the row stays", x.count(8), rows[i].length);
      Due.is("39: judge " + i, x.judge(official[i]), due[i]);
      Due.is("39: the row has none", x.count(8), 0);
    }
    Due.row(x, 0);
    Due.is("39: in an empty tray", x.judge(2), 0);
  }

  private static void lots() {
    InTraysPurgatory x = Due.with("s000;s091;");
    Due.is("41: signed", x.lots(1, 0, 0), 2);
    Due.is("41: signed in all", x.lots(20, 7, 0), 40);
    Due.is("41: borne", x.lots(3, 7, 1), 15);
    Due.is("41: only in mind", x.count(2), 3);
    Due.is("41: below", x.lots(0, 0, 2), -4);
    Due.is("41: above", x.lots(21, 0, 2), -6);
    Due.is("41: other", x.lots(20, 0, 2), -2);
    Due.is("41: other", x.lots(1, 0, -1), -2);
    // a CARBON is signed by one alone; DRAWS of seed 0 are 0 0 0 1 2 3 1 1 2 2, of seed 5 3 1 0 1, of seed -7 0 1 3 3
    String[] by = {"o0130;s393;", "o1130;s393;", "o2130;s393;", "o3130;s393;"};
    int[] ofNought = {3, 3, 3, 1};
    int[] ofFive = {1, 2, 0, 1};
    int[] ofBelow = {1, 1, 0, 2};
    for (int o = 0; o < 4; o++) {
      InTraysPurgatory carbon = Due.with(by[o]);
      Due.is("41: draws of 0", carbon.lots(10, 0, 0), ofNought[o]);
      Due.is("41: draws of 5", carbon.lots(4, 5, 0), ofFive[o]);
      Due.is("41: draws of -7", carbon.lots(4, -7, 0), ofBelow[o]);
      Due.is("41: borne", carbon.lots(4, 5, 1), 8 * ofFive[o]);
    }
    InTraysPurgatory signed = Due.with("o0130;s390;d01;s000;");
    Due.is("41: more, not in all", signed.lots(2, 1, 0), 2);
    Due.is("41: more, not in all", signed.lots(2, 1, 1), 2);
    Due.is("41: on day 10", Due.with("o0106;o1106;o2106;o3106;s490;").lots(1, 0, 0), 1);
    Due.is("41: on day 11", Due.with("o0105;o1105;o2105;o3105;s490;").lots(1, 0, 0), 0);
    InTraysPurgatory mislaid = Due.with("s000;m0;");
    Due.is("41: the mislaid stays so", mislaid.lots(5, 1, 0), 0);
    Due.is("41: less borne", Due.with("o0130;o1130;o2130;o3130;s390;d01;s500;m1;").lots(1, 0, 1), 0);
    Due.is("41: one less borne", Due.with("o0130;s390;d01;s500;").lots(1, 0, 1), -1);
  }
}
