import java.lang.reflect.Method;
import java.lang.reflect.Modifier;
import java.util.HashMap;
import java.util.Map;
import java.util.regex.Matcher;
import java.util.regex.Pattern;

/**
 * Runs of calls written as rows: "7: sets(0, 0, 5) = 1 words". The promise goes ahead of the call, the answer that is
 * due behind it; the words are for the reader. tell(text) feeds a text and asks for office().
 */
final class Rows {
  private static final Pattern ROW = Pattern.compile("(\\w+): (\\w+)\\((.*)\\) = (-?\\d+)(| .*)");
  private static final Map<String, Method> FACE = new HashMap<>();

  static {
    for (Method m : InTraysPurgatory.class.getDeclaredMethods()) {
      if (Modifier.isPublic(m.getModifiers())) FACE.put(m.getName(), m);
    }
  }

  private Rows() {
  }

  /** Makes all the calls of the rows on one object. */
  static void hold(InTraysPurgatory x, String rows) {
    for (String row : rows.strip().split("\n")) {
      Due.is(row, answer(x, row), due(row));
    }
  }

  static long answer(InTraysPurgatory x, String row) {
    Matcher m = parsed(row);
    String name = m.group(2);
    String told = m.group(3);
    if (name.equals("tell")) return Due.office(x, told);
    String[] texts = told.isEmpty() ? new String[0] : told.split(", ");
    Object[] numbers = new Object[texts.length];
    for (int i = 0; i < texts.length; i++) numbers[i] = Integer.parseInt(texts[i]);
    try {
      return ((Number) FACE.get(name).invoke(x, numbers)).longValue();
    } catch (ReflectiveOperationException e) {
      throw new IllegalStateException(row, e);
    }
  }

  static long due(String row) {
    return Long.parseLong(parsed(row).group(4));
  }

  private static Matcher parsed(String row) {
    Matcher m = ROW.matcher(row.strip());
    if (!m.matches() || !(FACE.containsKey(m.group(2)) || m.group(2).equals("tell"))) {
      throw new IllegalArgumentException("no row: " + row);
    }
    return m;
  }
}
