import java.io.IOException;
import java.lang.reflect.Method;
import java.lang.reflect.Modifier;
import java.nio.file.Files;
import java.nio.file.Path;
import java.util.HashMap;
import java.util.HashSet;
import java.util.Map;
import java.util.Set;
import java.util.regex.Matcher;
import java.util.regex.Pattern;

/** README.md: its examples answer what they say, and its tables tell every call of the face. */
public final class ReadmeTest {
  private static final Pattern EXAMPLE = Pattern.compile("x\\.(\\w+\\(.*\\)); +// (-?\\d+)(:.*)?");
  private static final Pattern CALL = Pattern.compile("(?m)^\\| `(\\w+)\\(([^)]*)\\)` \\|");

  public static void main(String[] args) throws IOException {
    String page = Files.readString(Path.of("README.md"));
    examples(page);
    tables(page);
    Due.end();
  }

  private static void examples(String page) {
    InTraysPurgatory x = null;
    int asked = 0;
    for (String line : page.split("\n")) {
      if (line.equals("InTraysPurgatory x = new InTraysPurgatory();")) x = new InTraysPurgatory();
      Matcher m = EXAMPLE.matcher(line);
      if (!m.matches()) {
        Due.is("README: no example: " + line, line.startsWith("x.") ? 1 : 0, 0);
        continue;
      }
      asked++;
      Due.is("README: " + line, Rows.answer(x, "0: " + letterAsNumber(m.group(1)) + " = 0"), Long.parseLong(m.group(2)));
    }
    Due.is("README: there are examples", asked > 20 ? 1 : 0, 1);
  }

  private static String letterAsNumber(String call) {
    int quote = call.indexOf('\'');
    return quote < 0 ? call : call.substring(0, quote) + (int) call.charAt(quote + 1) + call.substring(quote + 3);
  }

  private static void tables(String page) {
    Map<String, Integer> face = new HashMap<>();
    for (Method m : InTraysPurgatory.class.getDeclaredMethods()) {
      if (Modifier.isPublic(m.getModifiers())) face.put(m.getName(), m.getParameterCount());
    }
    Set<String> told = new HashSet<>();
    Matcher m = CALL.matcher(page);
    while (m.find()) {
      String parameters = m.group(2);
      int several = parameters.isEmpty() ? 0 : parameters.split(", ").length;
      Due.is("README: parameters of " + m.group(1), several, face.getOrDefault(m.group(1), -1));
      Due.is("README: told once, " + m.group(1), told.add(m.group(1)) ? 1 : 0, 1);
    }
    Due.is("README: calls that are told", told.size(), face.size());
  }
}
