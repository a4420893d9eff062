/** All that can be seen of an object, the refusals apart, so that two objects can be held against one another. */
final class Witness {
  private Witness() {
  }

  /** What the object tells as it is; asking for it changes nothing. */
  static String face(InTraysPurgatory x) {
    StringBuilder b = new StringBuilder("officials");
    for (int o = 0; o < 4; o++) {
      for (int what = 0; what < 4; what++) b.append(' ').append(x.officialOf(o, what));
    }
    b.append(" counts");
    for (int what : new int[] {0, 1, 7, 8, 9}) b.append(' ').append(x.count(what));
    int sheets = x.count(0);
    for (int s = 0; s < sheets; s++) {
      b.append(" sheet");
      for (int what = 0; what < 5; what++) b.append(' ').append(x.sheetOf(s, what));
      b.append(' ').append(x.behind(s, 0, 1));
    }
    return b.append('\n').toString();
  }

  /** What is hidden, too: the row, all that can be taken back, the image and the letters come to light and are gone. */
  static String whole(InTraysPurgatory x) {
    StringBuilder b = new StringBuilder(face(x));
    b.append("row ").append(x.judge(0)).append('\n');
    for (int more = x.count(9); more > 0; more--) b.append("back ").append(x.back()).append(' ');
    b.append(face(x));
    b.append("image ").append(x.restore()).append(' ').append(face(x));
    b.append("letters ").append(x.office()).append(' ').append(face(x));
    return b.toString();
  }

  static int[] refusals(InTraysPurgatory x) {
    int[] counts = new int[7];
    for (int r = 1; r <= 6; r++) counts[r] = x.count(10 + r);
    return counts;
  }
}
