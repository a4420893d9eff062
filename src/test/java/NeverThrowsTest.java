import java.lang.reflect.Method;
import java.lang.reflect.Modifier;
import java.util.ArrayList;
import java.util.Comparator;
import java.util.List;
import java.util.Random;

/** Every call with every twos and threes of edges, in several states: none throws, and long runs neither. */
public final class NeverThrowsTest {
  private static final int[] EDGES = {0, 1, 2, -1, 3, 4, 8, 9, 96, 60, Integer.MIN_VALUE, Integer.MAX_VALUE};
  private static final String[] OFFICES = {"", "s090;s490;s391;s192;s293;s500;s000;s012;m4;", "o0105;s390;s000;d60;d60;",
      "s000;s001;s002;s003;d60;d60;d60;d60;d60;d60;d60;d60;d60;d60;d60;d60;d60;d60;d60;d60;"};

  public static void main(String[] args) {
    List<Method> face = new ArrayList<>();
    for (Method m : InTraysPurgatory.class.getDeclaredMethods()) {
      if (Modifier.isPublic(m.getModifiers())) face.add(m);
    }
    face.sort(Comparator.comparing(Method::getName));
    for (String text : OFFICES) edges(face, text);
    for (int seed = 0; seed < 20; seed++) longRun(face, new Random(seed));
    Due.end();
  }

  private static void edges(List<Method> face, String text) {
    for (Method m : face) {
      InTraysPurgatory x = new InTraysPurgatory();
      Due.office(x, text);
      int several = (int) Math.pow(EDGES.length, Math.min(3, m.getParameterCount()));
      for (int i = 0; i < several; i++) {
        Object[] a = new Object[m.getParameterCount()];
        for (int j = 0, rest = i; j < a.length; j++, rest /= EDGES.length) a[j] = EDGES[j < 3 ? rest % EDGES.length : (i + j) % 5];
        ask(m, x, a);
      }
    }
  }

  /** Far more calls than the 512 that are promised. */
  private static void longRun(List<Method> face, Random lot) {
    InTraysPurgatory x = new InTraysPurgatory();
    for (int i = 0; i < 20000; i++) {
      Method m = face.get(lot.nextInt(face.size()));
      Object[] a = new Object[m.getParameterCount()];
      for (int j = 0; j < a.length; j++) a[j] = lot.nextInt(5) > 0 ? lot.nextInt(5) : EDGES[lot.nextInt(EDGES.length)];
      ask(m, x, a);
    }
  }

  private static void ask(Method m, InTraysPurgatory x, Object[] a) {
    try {
      m.invoke(x, a);
      Due.is(m.getName(), 0, 0);
    } catch (ReflectiveOperationException e) {
      Due.is(m.getName() + java.util.Arrays.toString(a) + " threw " + e.getCause() + ": wrong", 1, 0);
    }
  }
}
