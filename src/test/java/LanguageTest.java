import java.io.IOException;
import java.nio.file.Files;
import java.nio.file.Path;
import java.lang.reflect.Constructor;
import java.lang.reflect.Field;
import java.lang.reflect.Method;
import java.lang.reflect.Modifier;
import java.util.ArrayList;
import java.util.HashSet;
import java.util.List;
import java.util.Set;
import java.util.regex.Matcher;
import java.util.regex.Pattern;
import java.util.stream.Stream;

/** Some of the rules of LANGUAGE.md, as far as they can be seen from the text and the class. */
public final class LanguageTest {
  private static final String[] RULED_OUT = {"->", "::", "\\bimport\\b", "\\bpackage\\b", "\\bthrow\\b", "\\bthrows\\b",
      "\\bcatch\\b", "\\bfinally\\b", "\\bsynchronized\\b", "\\bassert\\b", "\\bvar\\b", "Exact\\(", "\\bSystem\\.(?!arraycopy)",
      "\\bRandom\\b", "@", "\\bnew int\\[[^\\]]*\\]\\[", "\\bwhile\\s*\\(\\s*true", "\"\\s*\\+", "\\+\\s*\""};

  public static void main(String[] args) throws IOException {
    String source = Files.readString(Path.of("src/main/java/InTraysPurgatory.java"));
    String code = source.replaceAll("(?s)/\\*.*?\\*/", "").replaceAll("//[^\n]*", "");
    for (String pattern : RULED_OUT) {
      Due.is("LANGUAGE: " + pattern, Pattern.compile(pattern).matcher(code).results().count(), 0);
    }
    Due.is("LANGUAGE: signs 1 to 127", source.chars().filter(c -> c < 1 || c > 127).count(), 0);
    Matcher calls = Pattern.compile("\\b(Math|Integer|Long|System|Arrays)\\.(\\w+)").matcher(code);
    while (calls.find()) {
      boolean listed = calls.group().matches("Math\\.(max|min|abs)|Integer\\.bitCount|System\\.arraycopy");
      Due.is("LANGUAGE: " + calls.group(), listed ? 0 : 1, 0);
    }
    face();
    counts();
    methodLengths(code);
    Due.end();
  }

  private static void face() {
    int open = 0;
    for (Method m : InTraysPurgatory.class.getDeclaredMethods()) {
      if (Modifier.isPublic(m.getModifiers())) open++;
      else Due.is("LANGUAGE: rule 1, " + m.getName(), Modifier.isPrivate(m.getModifiers()) || m.isSynthetic() ? 0 : 1, 0);
    }
    Due.is("LANGUAGE: methods of the face", open, 43);
    for (Field f : InTraysPurgatory.class.getDeclaredFields()) {
      Due.is("LANGUAGE: rule 1, " + f.getName(), Modifier.isPrivate(f.getModifiers()) ? 0 : 1, 0);
      boolean plain = !Modifier.isStatic(f.getModifiers()) || Modifier.isFinal(f.getModifiers());
      Due.is("LANGUAGE: rule 5, " + f.getName(), plain ? 0 : 1, 0);
    }
    for (Class<?> c : InTraysPurgatory.class.getDeclaredClasses()) {
      int modifiers = c.getModifiers();
      boolean plain = Modifier.isStatic(modifiers) && !Modifier.isPublic(modifiers) && !Modifier.isProtected(modifiers);
      Due.is("LANGUAGE: rule 1, " + c.getName(), plain ? 0 : 1, 0);
    }
    Constructor<?>[] constructors = InTraysPurgatory.class.getDeclaredConstructors();
    Due.is("LANGUAGE: one constructor", constructors.length, 1);
    Due.is("LANGUAGE: final", Modifier.isFinal(InTraysPurgatory.class.getModifiers()) ? 0 : 1, 0);
  }

  /** Few classes, few fields, few parameters, and no private method with the name of a public one. */
  private static void counts() {
    Set<String> open = new HashSet<>();
    for (Method m : InTraysPurgatory.class.getMethods()) open.add(m.getName());
    List<Class<?>> classes = new ArrayList<>(List.of(InTraysPurgatory.class.getDeclaredClasses()));
    classes.add(InTraysPurgatory.class);
    Due.is("LANGUAGE: rule 11, classes", classes.size() <= 12 ? 0 : classes.size(), 0);
    for (Class<?> c : classes) {
      long fields = Stream.of(c.getDeclaredFields()).filter(f -> !Modifier.isStatic(f.getModifiers())).count();
      Due.is("LANGUAGE: rule 11, fields of " + c.getName(), fields <= 20 ? 0 : fields, 0);
      for (Method m : c.getDeclaredMethods()) {
        Due.is("LANGUAGE: rule 11, parameters of " + m.getName(), m.getParameterCount() <= 7 ? 0 : 1, 0);
        boolean hidden = !Modifier.isPublic(m.getModifiers());
        Due.is("LANGUAGE: rule 1, name " + m.getName(), hidden && open.contains(m.getName()) ? 1 : 0, 0);
      }
    }
  }

  private static void methodLengths(String code) {
    int length = 0;
    boolean inside = false;
    for (String line : code.split("\n")) {
      if (line.matches(" {2,4}[\\w\\[\\] ]+\\(.*\\) \\{")) {
        inside = true;
        length = 0;
      }
      if (inside) length++;
      if (line.matches(" {2,4}\\}")) {
        Due.is("LANGUAGE: a method of " + length + " lines", length <= 60 ? 0 : 1, 0);
        inside = false;
      }
    }
  }
}
