import java.util.ArrayList;
import java.util.Arrays;
import java.util.Comparator;
import java.util.HashMap;
import java.util.LinkedHashSet;
import java.util.List;
import java.util.Map;
import java.util.Set;
import java.util.function.IntPredicate;
import java.util.stream.IntStream;

/**
 * The document told a second time, with lists, copies and classes of kinds, and no heed of cost. It answers every
 * call of the face through call(name, arguments), so that runs can be held against it.
 */
final class Model {
  static class Sheet {
    int weight(int f) { return 3 + f; }
    int part(int f) { return weight(f) / 3; }
    int rings(int m) { return m; }
    int haste() { return 0; }
    boolean stays() { return false; }
  }

  static class Urgent extends Sheet {
    @Override int weight(int f) { return super.weight(f) + 4; }
    @Override int haste() { return 2; }
  }

  static class Draft extends Sheet {
    @Override int weight(int f) { return super.weight(f) / 2; }
    @Override int haste() { return 1; }
  }

  static class Carbon extends Sheet {
    @Override int weight(int f) { return super.weight(f) * 2; }
    @Override int rings(int m) { return 0; }
    @Override boolean stays() { return true; }
  }

  static class Bully extends Urgent {
    @Override int weight(int f) { return super.weight(f) + f; }
    @Override int part(int f) { return weight(f); }
    @Override int rings(int m) { return m / 2; }
    @Override int haste() { return 1; }
  }

  static class Saint extends Draft {
    @Override int weight(int f) { return 0; }
    @Override int part(int f) { return -1; }
  }

  /** Above 255, so that no letter fits it. */
  private static final String NO_LETTER = "\u0100";

  private static final Sheet[] KINDS = {new Sheet(), new Urgent(), new Draft(), new Carbon(), new Bully(), new Saint()};

  /** One sheet on the floor. */
  static final class Paper {
    int number, kind, figure, minutes;
    int state;
    int signer = -9;
    int passings;
    int roundOn = -9;
    int signedOn = -9;

    Paper copy() {
      Paper p = new Paper();
      p.number = number; p.kind = kind; p.figure = figure; p.minutes = minutes; p.state = state; p.signer = signer;
      if (state == 1) p.signedOn = 0;
      return p;
    }
    Sheet as() { return KINDS[kind]; }
    int load() { return as().weight(figure) - as().rings(minutes); }
  }

  static final class World {
    final int[] pace = {1, 1, 1, 1}, mercy = {5, 5, 5, 5}, borne = new int[4], room = {0, 2, 4, 6};
    final List<Paper> papers = new ArrayList<>();
    final List<List<Paper>> trays = new ArrayList<>();
    int day;
    int elapsed;
    final int[] busy = new int[4];

    World() {
      for (int o = 0; o < 4; o++) trays.add(new ArrayList<>());
    }

    World copy() {
      World w = new World();
      for (int o = 0; o < 4; o++) {
        w.pace[o] = pace[o]; w.mercy[o] = mercy[o]; w.borne[o] = borne[o]; w.room[o] = room[o];
      }
      for (Paper p : papers) w.papers.add(p.copy());
      for (int o = 0; o < 4; o++) {
        for (Paper p : trays.get(o)) w.trays.get(o).add(w.papers.get(p.number));
      }
      w.day = day;
      return w;
    }

    int trayOf(Paper p) {
      for (int o = 0; o < 4; o++) {
        if (trays.get(o).contains(p)) return o;
      }
      return -9;
    }

    void putBehind(Paper p, int o) {
      for (List<Paper> t : trays) t.remove(p);
      p.state = 0;
      trays.get(o).add(p);
    }

    void mislay(Paper p) {
      if (p.state == 2) { putBehind(p, 0); return; }
      for (List<Paper> t : trays) t.remove(p);
      p.state = 2;
    }

    void oneDay(Set<Integer> idle, Set<Integer> gone) {
      day++;
      elapsed++;
      for (int o = 0; o < 4; o++) {
        if (idle.contains(o) || gone.contains(o)) continue;
        List<Paper> lay = new ArrayList<>(trays.get(o));
        lay.sort(Comparator.comparingInt(p -> -p.as().haste()));
        if (lay.size() > pace[o]) lay = lay.subList(0, pace[o]);
        if (!lay.isEmpty()) busy[o]++;
        for (Paper p : lay) {
          trays.get(o).remove(p);
          if (p.load() <= mercy[o]) {
            p.state = 1;
            p.signer = o;
            p.signedOn = elapsed;
            borne[o] += p.as().part(p.figure);
            if (borne[o] > 999) borne[o] = 999;
            if (borne[o] < 0) borne[o] = 0;
          } else {
            if (p.minutes < 99) p.minutes++;
            p.passings++;
            if (p.passings == 4) p.roundOn = elapsed;
            int to = o;
            if (!p.as().stays()) {
              do to = (to + 1) % 4; while (gone.contains(to));
            }
            trays.get(to).add(p);
          }
        }
      }
    }

    World live(int n) {
      for (int i = 0; i < n; i++) oneDay(Set.of(), Set.of());
      return this;
    }

    int bits(int state) {
      int b = 0;
      for (Paper p : papers) if (p.state == state) b |= 1 << p.number;
      return b;
    }

    int number(int state) { return Integer.bitCount(bits(state)); }
    int allBorne() { return IntStream.of(borne).sum(); }
  }

  private World now = new World();
  private World image;
  private final List<World> past = new ArrayList<>();
  private final StringBuilder letters = new StringBuilder();
  private final List<Integer> row = new ArrayList<>();
  private final Map<Integer, Integer> refusals = new HashMap<>();

  private int refuse(int code) {
    refusals.merge(code, 1, Integer::sum);
    return code;
  }

  private boolean noSheet(int s) { return s < 0 || s >= now.papers.size(); }
  private static boolean noOfficial(int o) { return o < 0 || o > 3; }

  private void keep() {
    past.add(now.copy());
    if (past.size() > 8) past.remove(0);
  }

  /** The first refusal told whose test holds, by twos of (test, code); 0 none. */
  private int first(Object... told) {
    for (int i = 0; i < told.length; i += 2) {
      if ((Boolean) told[i]) return refuse((Integer) told[i + 1]);
    }
    return 0;
  }

  private static boolean out(int what, int most) { return what < 0 || what > most; }

  long call(String name, int... a) {
    switch (name) {
      case "feed": return feed(a[0]);
      case "office": return office();
      case "officialOf": return officialOf(a[0], a[1]);
      case "sheetOf": return sheetOf(a[0], a[1]);
      case "sheet": return sheet(a[0], a[1], a[2]);
      case "sets": return sets(a[0], a[1], a[2]);
      case "mislays": return mislays(a[0]);
      case "moves": return moves(a[0], a[1]);
      case "days": return days(a[0]);
      case "back": return back();
      case "behind": return behind(a[0], a[1], a[2]);
      case "then": return then(a[0], a[1], a[2]);
      case "signed": return signed(a[0], a[1]);
      case "all": return all(a[0]);
      case "bestTray": return bestTray(a[0], a[1]);
      case "up": return up();
      case "wanted": return wanted(a[0], a[1], a[2]);
      case "who": return who(a[0]);
      case "rounds": return rounds(a[0]);
      case "fair": return fair(a[0]);
      case "heaviest": return heaviest(a[0]);
      case "whose": return whose(a[0], a[1]);
      default: return more(name, a);
    }
  }

  private long more(String name, int... a) {
    switch (name) {
      case "which": return which(a[0], a[1]);
      case "trolley": return trolley(a[0]);
      case "two": return two(a[0], a[1]);
      case "holidays": return holidays(a[0], a[1], a[2], a[3], a[4]);
      case "fullest": return fullest(a[0]);
      case "longest": return longest(a[0]);
      case "top": return top(a[0]);
      case "queue": return queue(a[0], a[1]);
      case "clerk": return clerk();
      case "light": return light();
      case "average": return average(a[0]);
      case "same": return same();
      case "busy": return busy(a[0], a[1]);
      case "passed": return passed(a[0]);
      case "row": return row(a[0]);
      case "judge": return judge(a[0]);
      case "clear": return clear();
      case "lots": return lots(a[0], a[1], a[2]);
      case "image": image = now.copy(); return now.day;
      case "restore": return restore();
      case "count": return count(a[0]);
      default: throw new IllegalArgumentException(name);
    }
  }

  private int feed(int letter) {
    int r = first(letter < 0, -4, letter > 255 || letters.length() == 96, -6);
    if (r != 0) return r;
    letters.append((char) letter);
    return letters.length();
  }

  private int office() {
    String text = letters.toString();
    letters.setLength(0);
    String form = "";
    int at = 0;
    do {
      char c = at < text.length() ? text.charAt(at) : 0;
      form = c == 's' ? "s###;" : c == 'o' ? "o####;" : c == 'r' ? "r##;" : c == 'm' ? "m#;" : c == 'd' ? "d##;" : NO_LETTER;
      for (char f : form.toCharArray()) {
        boolean fits = at < text.length() && (f == '#' ? "0123456789".indexOf(text.charAt(at)) >= 0 : f == text.charAt(at));
        if (!fits) return -1000 - at;
        at++;
      }
    } while (at < text.length());
    World w = now.copy();
    int place = 0;
    int statements = 0;
    for (String statement : text.split(";")) {
      if (!statement(w, statement)) return -2000 - place;
      place += statement.length() + 1;
      statements++;
    }
    now = w.copy();
    past.clear();
    return statements;
  }

  private static boolean statement(World w, String s) {
    int a = s.charAt(1) - '0';
    int b = s.length() > 2 ? s.charAt(2) - '0' : 0;
    switch (s.charAt(0)) {
      case 's': {
        int o = s.charAt(3) - '0';
        if (a > 5 || o > 3 || w.papers.size() == 9) return false;
        newSheet(w, a, b, o);
        return true;
      }
      case 'o': {
        int mercy = Integer.parseInt(s.substring(3));
        if (a > 3 || b < 1 || b > 5 || mercy > 30) return false;
        w.pace[a] = b;
        w.mercy[a] = mercy;
        return true;
      }
      case 'r':
        if (a > 3) return false;
        w.room[a] = b;
        return true;
      case 'm':
        if (a >= w.papers.size() || w.papers.get(a).state == 1) return false;
        w.mislay(w.papers.get(a));
        return true;
      default: {
        int n = Integer.parseInt(s.substring(1));
        if (n < 1 || n > 60 || w.day + n > 999) return false;
        w.live(n);
        return true;
      }
    }
  }

  private static int newSheet(World w, int kind, int figure, int official) {
    Paper p = new Paper();
    p.number = w.papers.size();
    p.kind = kind;
    p.figure = figure;
    w.papers.add(p);
    w.trays.get(official).add(p);
    return p.number;
  }

  private int officialOf(int o, int what) {
    int r = first(noOfficial(o), -1, out(what, 4), -2);
    if (r != 0) return r;
    return new int[] {now.pace[o], now.mercy[o], now.borne[o], now.room[o], now.trays.get(o).size()}[what];
  }

  private int sheetOf(int s, int what) {
    int r = first(noSheet(s), -1, out(what, 7), -2);
    if (r != 0) return r;
    Paper p = now.papers.get(s);
    int who = p.state == 0 ? now.trayOf(p) : p.state == 1 ? p.signer : -9;
    return new int[] {p.kind, p.figure, p.state, who, p.minutes, p.as().weight(p.figure), p.as().rings(p.minutes),
        p.as().haste()}[what];
  }

  private int sheet(int kind, int figure, int o) {
    int r = first(out(kind, 5), -2, figure < 0, -4, figure > 9 || now.papers.size() == 9, -6, noOfficial(o), -1);
    if (r != 0) return r;
    past.clear();
    return newSheet(now, kind, figure, o);
  }

  private int sets(int o, int what, int v) {
    int least = what == 0 ? 1 : 0;
    int most = what == 0 ? 5 : what == 1 ? 30 : 9;
    int r = first(noOfficial(o), -1, out(what, 2), -2, v < least, -4, v > most, -6);
    if (r != 0) return r;
    keep();
    int[] which = what == 0 ? now.pace : what == 1 ? now.mercy : now.room;
    int was = which[o];
    which[o] = v;
    return was;
  }

  private int mislays(int s) {
    int r = first(noSheet(s), -1, !noSheet(s) && now.papers.get(s).state == 1, -3);
    if (r != 0) return r;
    keep();
    now.mislay(now.papers.get(s));
    return now.number(2);
  }

  private int moves(int s, int o) {
    int r = first(noSheet(s) || noOfficial(o), -1, !noSheet(s) && now.papers.get(s).state != 0, -3);
    if (r != 0) return r;
    keep();
    now.putBehind(now.papers.get(s), o);
    return now.trays.get(o).size();
  }

  private int days(int n) {
    int r = first(n < 1, -4, n > 60 || now.day + n > 999, -6);
    if (r != 0) return r;
    keep();
    now.live(n);
    now = now.copy();
    return now.number(1);
  }

  private int back() {
    if (past.isEmpty()) return refuse(-3);
    now = past.remove(past.size() - 1);
    return past.size();
  }

  private int behind(int s, int n, int what) {
    int r = first(noSheet(s), -1, n < 0, -4, n > 60, -6, out(what, 2), -2);
    if (r != 0) return r;
    World w = now.copy().live(n);
    Paper p = w.papers.get(s);
    if (what == 2) return p.minutes;
    int tray = w.trayOf(p);
    return what == 0 || tray < 0 ? tray : w.trays.get(tray).indexOf(p);
  }

  private int then(int o, int n, int what) {
    int r = first(noOfficial(o), -1, n < 0, -4, n > 60, -6, out(what, 2), -2);
    if (r != 0) return r;
    World w = now.copy().live(n);
    return new int[] {w.borne[o], w.trays.get(o).size(), w.number(1)}[what];
  }

  private int signedOn(World from, int s, int within) {
    return from.copy().live(within).papers.get(s).signedOn;
  }

  private int signed(int s, int what) {
    int r = first(noSheet(s), -1, out(what, 1), -2);
    if (r != 0) return r;
    return what == 0 ? signedOn(now, s, 60) : now.copy().live(60).papers.get(s).signer;
  }

  private int all(int what) {
    int r = first(out(what, 2), -2);
    if (r != 0) return r;
    for (int n = 0; n <= 60; n++) {
      World w = now.copy().live(n);
      if (what == 1 && w.bits(0) == 0) return n;
      int fresh = w.bits(1) & ~now.bits(1);
      if (what == 0 && fresh != 0) return Integer.numberOfTrailingZeros(fresh);
      if (what == 2 && n == 60) return w.bits(0);
    }
    return -9;
  }

  private int bestTray(int s, int what) {
    int r = first(noSheet(s), -1, out(what, 1), -2, !noSheet(s) && now.papers.get(s).state != 0, -3);
    if (r != 0) return r;
    for (int n = 0; n <= 60; n++) {
      for (int o = 0; o < 4; o++) {
        World w = now.copy();
        w.putBehind(w.papers.get(s), o);
        if (signedOn(w, s, 60) == n) return what == 0 ? o : n;
      }
    }
    return -9;
  }

  private int up() {
    int b = 0;
    for (Paper p : now.papers) {
      if (p.state != 0) continue;
      World w = now.copy();
      List<Paper> tray = w.trays.get(now.trayOf(p));
      Paper same = w.papers.get(p.number);
      tray.remove(same);
      tray.add(0, same);
      int is = signedOn(now, p.number, 60);
      int would = signedOn(w, p.number, 60);
      if (would != -9 && (is == -9 || would < is)) b |= 1 << p.number;
    }
    return b;
  }

  private int wanted(int o, int n, int what) {
    int r = first(noOfficial(o), -1, n < 0, -4, n > 60, -6, out(what, 1), -2);
    if (r != 0) return r;
    for (int v = what; v <= (what == 0 ? 30 : 5); v++) {
      World w = now.copy();
      (what == 0 ? w.mercy : w.pace)[o] = v;
      if (w.live(n).bits(0) == 0) return v;
    }
    return -9;
  }

  private int who(int s) {
    if (noSheet(s)) return refuse(-1);
    int b = 0;
    for (int o = 0; o < 4; o++) if (now.papers.get(s).load() <= now.mercy[o]) b |= 1 << o;
    return b;
  }

  private int rounds(int s) {
    if (s != -1 && noSheet(s)) return refuse(-1);
    World w = now.copy().live(60);
    if (s == -1) return (int) w.papers.stream().filter(p -> p.passings >= 4).count();
    return w.papers.get(s).roundOn;
  }

  private int fair(int what) {
    int r = first(out(what, 2), -2);
    if (r != 0) return r;
    if (what > 0) return what == 1 ? now.allBorne() / 4 : now.allBorne() % 4;
    int[] b = now.borne.clone();
    Arrays.sort(b);
    return b[3] - b[0];
  }

  private int heaviest(int what) {
    int r = first(out(what, 1), -2);
    if (r != 0) return 1000000000 - r;
    Paper best = null;
    for (Paper p : now.papers) if (p.state == 0 && (best == null || p.load() > best.load())) best = p;
    return best == null ? -9 : what == 0 ? best.number : best.load();
  }

  private int fits(int from, int to, IntPredicate fit) {
    int b = 0;
    for (int v = from; v <= to; v++) if (fit.test(v)) b |= 1 << v;
    return b;
  }

  private boolean trayCounts(World w, int o) {
    for (int i = 0; i < row.size(); i++) {
      if (w.copy().live(i).trays.get(o).size() != row.get(i)) return false;
    }
    return true;
  }

  private int whose(int o, int what) {
    int r = first(noOfficial(o), -1, out(what, 2), -2);
    if (r != 0) return r;
    int b = fits(what == 0 ? 1 : 0, what == 0 ? 5 : 30, v -> {
      World w = now.copy();
      (what == 0 ? w.pace : w.mercy)[o] = v;
      return trayCounts(w, o);
    });
    return what == 0 ? b : what == 1 ? Integer.bitCount(b) : b == 0 ? -9 : Integer.numberOfTrailingZeros(b);
  }

  private int which(int s, int what) {
    int r = first(noSheet(s), -1, out(what, 1), -2);
    if (r != 0) return r;
    return fits(0, what == 0 ? 5 : 9, v -> {
      World w = now.copy();
      if (what == 0) w.papers.get(s).kind = v;
      else w.papers.get(s).figure = v;
      for (int i = 0; i < row.size(); i++) {
        World later = w.copy().live(i);
        int tray = later.trayOf(later.papers.get(s));
        if ((tray < 0 ? 9 : tray) != row.get(i)) return false;
      }
      return true;
    });
  }

  private void orders(List<Integer> so, Set<Integer> left, List<List<Integer>> all) {
    if (left.isEmpty()) all.add(new ArrayList<>(so));
    for (int o : left) {
      Set<Integer> rest = new LinkedHashSet<>(left);
      rest.remove(o);
      so.add(o);
      orders(so, rest, all);
      so.remove(so.size() - 1);
    }
  }

  private int way(List<Integer> order) {
    int way = 0;
    int room = 0;
    for (int o : order) {
      way += Math.abs(room - now.room[o]);
      room = now.room[o];
    }
    return way;
  }

  private int trolley(int i) {
    if (i < -1) return refuse(-4);
    Set<Integer> full = new LinkedHashSet<>();
    for (int o = 0; o < 4; o++) if (!now.trays.get(o).isEmpty()) full.add(o);
    List<List<Integer>> all = new ArrayList<>();
    orders(new ArrayList<>(), full, all);
    List<Integer> best = all.get(0);
    for (List<Integer> order : all) if (way(order) < way(best)) best = order;
    return i == -1 ? way(best) : i < best.size() ? best.get(i) : -9;
  }

  private int bears(int one, int other, int oneMore, int otherMore, int who) {
    World w = now.copy();
    w.mercy[one] += 5 * oneMore;
    w.mercy[other] += 5 * otherMore;
    return w.live(10).borne[who] - now.borne[who];
  }

  private int two(int one, int other) {
    if (noOfficial(one) || noOfficial(other) || one == other) return refuse(-1);
    for (int a = 0; a < 2; a++) {
      for (int b = 0; b < 2; b++) {
        boolean betterOne = bears(one, other, 1 - a, b, one) < bears(one, other, a, b, one);
        boolean betterOther = bears(one, other, a, 1 - b, other) < bears(one, other, a, b, other);
        if (!betterOne && !betterOther) return 10 * a + b;
      }
    }
    return -9;
  }

  private long chance(World w, int o, int s, int n, int t) {
    if (n == 0) return w.papers.get(s).state == 1 ? 1 : 0;
    World away = w.copy();
    away.oneDay(Set.of(o), Set.of());
    World there = w.copy();
    there.oneDay(Set.of(), Set.of());
    return chance(away, o, s, n - 1, t) + (t - 1) * chance(there, o, s, n - 1, t);
  }

  private static long fraction(long above, long below, int part) {
    for (long d = Math.max(above, 1); d > 1 && below > 1; d--) {
      if (above % d == 0 && below % d == 0) return part == 0 ? above / d : below / d;
    }
    return part == 0 ? above : above == 0 ? 1 : below;
  }

  private long holidays(int o, int s, int n, int t, int part) {
    int r = first(noOfficial(o) || noSheet(s), -1, n < 0 || t < 2, -4, n > 6 || t > 20, -6, out(part, 1), -2);
    if (r != 0) return 4000000000000000000L - r;
    long below = 1;
    for (int i = 0; i < n; i++) below *= t;
    long above = chance(now, o, s, n, t);
    // only primes of t can be cut: quicker than trying every number
    for (int p = 2; p <= t; p++) {
      while (above % p == 0 && below % p == 0 && below > 1) {
        above /= p;
        below /= p;
      }
    }
    return part == 0 ? above : below;
  }

  private int fullest(int what) {
    int r = first(out(what, 1), -2);
    if (r != 0) return r;
    int most = now.trays.stream().mapToInt(List::size).max().getAsInt();
    for (int o = 0; o < 4; o++) if (now.trays.get(o).size() == most) return what == 0 ? o : most;
    return -9;
  }

  private int longest(int what) {
    int r = first(out(what, 1), -2);
    if (r != 0) return r;
    Paper best = null;
    for (Paper p : now.papers) if (p.state == 0 && (best == null || p.minutes > best.minutes)) best = p;
    return best == null ? -9 : what == 0 ? best.number : best.minutes;
  }

  private List<Paper> inOrderTaken(int o) {
    List<Paper> lay = new ArrayList<>(now.trays.get(o));
    lay.sort(Comparator.comparingInt(p -> -p.as().haste()));
    return lay;
  }

  private int top(int o) {
    if (noOfficial(o)) return refuse(-1);
    List<Paper> lay = inOrderTaken(o);
    return lay.isEmpty() ? -9 : lay.get(0).number;
  }

  private int queue(int o, int s) {
    if (noOfficial(o) || noSheet(s)) return refuse(-1);
    int at = inOrderTaken(o).indexOf(now.papers.get(s));
    return at < 0 ? -9 : at;
  }

  private int clerk() {
    int best = 0;
    int most = -1;
    for (int o = 0; o < 4; o++) {
      World w = now.copy();
      for (Paper p : new ArrayList<>(w.trays.get(o))) w.putBehind(p, (o + 1) % 4);
      for (int i = 0; i < 30; i++) w.oneDay(Set.of(), Set.of(o));
      if (w.number(1) > most) {
        most = w.number(1);
        best = o;
      }
    }
    return best;
  }

  private int light() {
    int best = -9;
    int most = -1;
    for (Paper p : now.papers) {
      if (p.state != 0) continue;
      World w = now.copy();
      w.mislay(w.papers.get(p.number));
      int others = ~(1 << p.number);
      int would = Integer.bitCount(w.live(30).bits(1) & others);
      int is = Integer.bitCount(now.copy().live(30).bits(1) & others);
      if (would > is && would > most) {
        most = would;
        best = p.number;
      }
    }
    return best;
  }

  private long average(int part) {
    int r = first(out(part, 1), -2);
    if (r != 0) return 4000000000000000000L - r;
    if (now.papers.isEmpty()) return part;
    return fraction(now.papers.stream().mapToInt(p -> p.minutes).sum(), now.papers.size(), part);
  }

  private int same() {
    World w = now.copy().live(60);
    int twos = 0;
    for (Paper p : w.papers) {
      for (Paper q : w.papers) {
        if (p.number < q.number && p.signedOn >= 1 && p.signedOn == q.signedOn) twos++;
      }
    }
    return twos;
  }

  private int busy(int o, int n) {
    int r = first(noOfficial(o), -1, n < 0, -4, n > 60, -6);
    return r != 0 ? r : now.copy().live(n).busy[o];
  }

  private int passed(int n) {
    int r = first(n < 0, -4, n > 60, -6);
    return r != 0 ? r : now.copy().live(n).papers.stream().mapToInt(p -> p.passings).sum();
  }

  private int row(int v) {
    int r = first(v < 0, -4, v > 99 || row.size() == 12, -6);
    if (r != 0) return r;
    row.add(v);
    return row.size();
  }

  private int judge(int o) {
    if (noOfficial(o)) return refuse(-1);
    List<Paper> tray = now.trays.get(o);
    int wrong = -9;
    for (int i = 0; i < row.size() && wrong == -9; i++) {
      if (i >= tray.size() || tray.get(i).number != row.get(i)) wrong = i;
    }
    row.clear();
    return wrong;
  }

  private int clear() {
    int had = row.size();
    row.clear();
    return had;
  }

  private int lots(int n, int z, int what) {
    int r = first(n < 1, -4, n > 20, -6, out(what, 1), -2);
    if (r != 0) return r;
    int sum = 0;
    int seed = z;
    for (int i = 0; i < n; i++) {
      World w = now.copy();
      for (Paper p : w.papers) {
        if (p.state != 0) continue;
        seed = seed * 1103515245 + 12345;
        w.putBehind(p, ((seed << 1 >>> 1) / 65536) % 4);
      }
      w.live(10);
      sum += what == 0 ? w.number(1) - now.number(1) : w.allBorne() - now.allBorne();
    }
    return sum;
  }

  private int restore() {
    if (image == null) return refuse(-3);
    now = image.copy();
    past.clear();
    return now.day;
  }

  private int count(int what) {
    if (what >= 11 && what <= 16) return refusals.getOrDefault(10 - what, 0);
    switch (what) {
      case 0: return now.papers.size();
      case 1: return now.day;
      case 2: return now.bits(0);
      case 3: return now.bits(1);
      case 4: return now.bits(2);
      case 5: return now.allBorne();
      case 6: return now.papers.stream().mapToInt(p -> p.minutes).sum();
      case 7: return letters.length();
      case 8: return row.size();
      case 9: return past.size();
      default: return -9;
    }
  }
}
