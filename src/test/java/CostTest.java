import java.lang.management.ManagementFactory;
import java.lang.reflect.Array;
import java.lang.reflect.Field;
import java.lang.reflect.Method;
import java.lang.reflect.Modifier;
import java.util.IdentityHashMap;
import java.util.Map;

/** What an object costs: how much is made with it, and that no call makes anything. */
public final class CostTest {
  /** The machine itself may make a little while it measures. */
  private static final long NOISE = 4096;

  private final Map<Object, Boolean> seen = new IdentityHashMap<>();
  private int elements;

  public static void main(String[] args) throws ReflectiveOperationException {
    CostTest whole = new CostTest();
    whole.look(new InTraysPurgatory());
    Due.is("cost: objects and arrays of one are few", whole.seen.size() <= 200 ? 0 : whole.seen.size(), 0);
    Due.is("cost: fields and elements of one are few", whole.elements <= 1500 ? 0 : whole.elements, 0);
    InTraysPurgatory x = new InTraysPurgatory();
    for (int round = 0; round < 3; round++) callAll(x);
    long before = made();
    for (int round = 0; round < 30; round++) callAll(x);
    long more = made() - before;
    Due.is("cost: calls make nothing", more <= NOISE ? 0 : more, 0);
    Due.end();
  }

  private void look(Object o) throws ReflectiveOperationException {
    if (o == null || seen.put(o, true) != null) return;
    if (o.getClass().isArray()) {
      elements += Array.getLength(o);
      for (int i = 0; o instanceof Object[] && i < Array.getLength(o); i++) look(Array.get(o, i));
      return;
    }
    for (Class<?> c = o.getClass(); c != null; c = c.getSuperclass()) {
      for (Field f : c.getDeclaredFields()) {
        if (Modifier.isStatic(f.getModifiers())) continue;
        elements++;
        f.setAccessible(true);
        if (!f.getType().isPrimitive()) look(f.get(o));
      }
    }
  }

  /** Told by the JDK's own bean of threads; where a machine has none, nothing is measured. */
  private static long made() throws ReflectiveOperationException {
    Object threads = ManagementFactory.getThreadMXBean();
    Class<?> bean;
    try {
      bean = Class.forName("com.sun.management.ThreadMXBean");
    } catch (ClassNotFoundException e) {
      return 0;
    }
    if (!bean.isInstance(threads)) return 0;
    Method told = bean.getMethod("getThreadAllocatedBytes", long.class);
    return (Long) told.invoke(threads, Thread.currentThread().getId());
  }

  /** Each call of the face, by its plain name, so that nothing is made by the test. */
  private static void callAll(InTraysPurgatory x) {
    x.image();
    changes(x);
    for (int n = 0; n <= 60; n += 20) inMind(x, n);
    choices(x);
    x.restore();
  }

  private static void changes(InTraysPurgatory x) {
    tellSheet(x);
    x.sheet(4, 9, 0);
    x.sheet(3, 9, 1);
    x.sheet(2, 0, 2);
    x.sheet(0, 9, 9);
    x.sets(0, 1, 3);
    x.mislays(0);
    x.moves(1, 3);
    x.days(2);
    x.days(61);
    x.back();
    x.row(1);
    x.row(0);
  }

  private static void tellSheet(InTraysPurgatory x) {
    x.feed('s');
    x.feed('0');
    x.feed('9');
    x.feed('0');
    x.feed(';');
    x.office();
    x.office();
  }

  private static void inMind(InTraysPurgatory x, int n) {
    x.behind(1, n, 1);
    x.then(1, n, 0);
    x.signed(1, 0);
    x.all(1);
    x.bestTray(1, 0);
    x.up();
    x.wanted(0, n, 0);
    x.rounds(-1);
    x.same();
    x.busy(0, n);
    x.passed(n);
    x.clerk();
    x.light();
    x.lots(20, n, 1);
  }

  private static void choices(InTraysPurgatory x) {
    x.officialOf(0, 4);
    x.sheetOf(1, 5);
    x.who(1);
    x.fair(0);
    x.heaviest(1);
    x.whose(0, 1);
    x.which(1, 0);
    x.trolley(-1);
    x.two(0, 1);
    x.holidays(0, 1, 6, 20, 0);
    x.fullest(0);
    x.longest(0);
    x.top(0);
    x.queue(0, 1);
    x.average(0);
    x.judge(0);
    x.clear();
    x.count(2);
  }
}
