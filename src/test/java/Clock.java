/**
 * Offices in which a sheet of less haste is held up for so many days: BULLYS go round and round ahead of it, one of them
 * taken on each day by each official. All officials have no mercy and a pace of 1.
 */
final class Clock {
  static final String NO_MERCY = "o0100;o1100;o2100;o3100;";

  private Clock() {
  }

  /**
   * BULLYS in the tray of official 0, so that a SHEET behind them is taken first on the day behind so many. A BULLY
   * weighs 7 and twice its FIGURE, is signed as it was passed on twice as often, and so is taken by 0 on 4 days and
   * FIGURE more.
   */
  static String holds(int days) {
    return NO_MERCY + bullies(days, bullies(days), 4);
  }

  static int bullies(int days) {
    return (days + 12) / 13;
  }

  /**
   * The same where official 0 has a mercy of 6, so that he alone signs a CARBON of FIGURE 0: a BULLY is then signed by
   * him on the day that he takes it for the second time and FIGURE more.
   */
  static String holdsForMercyOfSix(int days) {
    return "o0106;o1100;o2100;o3100;" + bullies(days, (days + 10) / 11, 2);
  }

  private static String bullies(int days, int several, int least) {
    StringBuilder b = new StringBuilder();
    int rest = days - several * least;
    for (int i = several; i > 0; i--) {
      int figure = (rest + i - 1) / i;
      if (figure < 0 || figure > 9) throw new IllegalArgumentException(days + " days");
      b.append("s4").append(figure).append("0;");
      rest -= figure;
    }
    return b.toString();
  }
}
