/**
 * In trays are purgatory: sheets in the trays of four officials, who sign them or pass them on, day by day.
 * The document (DOC.md) says what each call answers; the numbers below 0 are its refusals and its "-9".
 */
public final class InTraysPurgatory {
  private static final int OFFICIALS = 4;
  private static final int SHEETS = 9;
  private static final int KINDS = 6;
  private static final int FIGURE_MOST = 9;
  private static final int PACE_MOST = 5;
  private static final int MERCY_MOST = 30;
  private static final int ROOM_MOST = 9;
  private static final int BORNE_MOST = 999;
  private static final int MINUTES_MOST = 99;
  private static final int DAY_MOST = 999;

  private static final int URGENT = 1;
  private static final int DRAFT = 2;
  private static final int CARBON = 3;
  private static final int BULLY = 4;
  private static final int SAINT = 5;

  private static final int WAITING = 0;
  private static final int SIGNED = 1;
  private static final int MISLAID = 2;

  private static final int PACE_CHANGED = 0;
  private static final int MERCY_CHANGED = 1;

  private static final int NONE = -9;
  private static final int NOBODY = -1;
  private static final int OTHER = -2;
  private static final int STATE = -3;
  private static final int BELOW = -4;
  private static final int ROOM = -6;
  private static final int HEAVIEST_REFUSED = 1000000000;
  private static final long LONG_REFUSED = 4000000000000000000L;

  private static final int AHEAD_DAYS = 60;
  private static final int MONTH = 30;
  private static final int DECADE = 10;
  private static final int ROUND_PASSINGS = 4;
  private static final int MORE_MERCY = 5;
  /** Two officials have two choices each. */
  private static final int PAIRS = 4;
  private static final int HOLIDAYS_MOST = 6;
  private static final int ODDS_MOST = 20;
  private static final int LOTS_MOST = 20;
  private static final int LETTERS_MOST = 96;
  private static final int LETTER_GREATEST = 255;
  private static final int ROW_MOST = 12;
  private static final int ROW_GREATEST = 99;
  private static final int TOLD_AS_GONE = 9;
  private static final int PAST_MOST = 8;
  private static final int FAULT_OF_LETTER = -1000;
  private static final int FAULT_OF_STATEMENT = -2000;

  private final Floor now = new Floor();
  private final Mind mind = new Mind();
  private final Floor picture = new Floor();
  private boolean pictured;
  private final Past past = new Past();
  private final int[] letters = new int[LETTERS_MOST];
  private int lettersIn;
  private final int[] numbers = new int[ROW_MOST];
  private int numbersIn;
  /** How many refusals there were, each at its number without the sign. */
  private final int[] refusals = new int[1 - ROOM];
  private final int[] signedAsItIs = new int[SHEETS];
  private final int[] borneByOne = new int[PAIRS];
  private final int[] borneByOther = new int[PAIRS];
  private int seed;

  public InTraysPurgatory() {
  }

  // ---- letters and the office that they tell

  public int feed(int letter) {
    if (letter < 0) return refuse(BELOW);
    if (letter > LETTER_GREATEST || lettersIn >= LETTERS_MOST) return refuse(ROOM);
    letters[lettersIn] = letter;
    lettersIn++;
    return lettersIn;
  }

  public int office() {
    int wrong = firstWrongLetter();
    int answer = wrong == NONE ? 0 : FAULT_OF_LETTER - wrong;
    mind.begin(now);
    for (int place = 0; answer >= 0 && place < lettersIn; place += statementLength(letterAt(place))) {
      answer = comesToPass(place) ? answer + 1 : FAULT_OF_STATEMENT - place;
    }
    if (answer > 0) {
      now.takeOver(mind);
      past.forget();
    }
    lettersIn = 0;
    return answer;
  }

  /** The place of the first letter with which no office can go on; the end counts as a letter that fits nowhere. */
  private int firstWrongLetter() {
    for (int place = 0; place == 0 || place < lettersIn; place += statementLength(letterAt(place))) {
      int length = statementLength(letterAt(place));
      if (length == 1) return place;
      for (int i = 1; i < length - 1; i++) {
        if (letterAt(place + i) < '0' || letterAt(place + i) > '9') return place + i;
      }
      if (letterAt(place + length - 1) != ';') return place + length - 1;
    }
    return NONE;
  }

  private int letterAt(int place) {
    return place >= 0 && place < lettersIn && place < letters.length ? letters[place] : NONE;
  }

  private int digitAt(int place) {
    return letterAt(place) - '0';
  }

  /** How long a statement is that begins so, its ";" too; 1 if none does. */
  private static int statementLength(int letter) {
    switch (letter) {
      case 's': return 5;
      case 'o': return 6;
      case 'r': return 4;
      case 'm': return 3;
      case 'd': return 4;
      default: return 1;
    }
  }

  /** Does in mind what the statement at a place tells; false if it is not as it must be. */
  private boolean comesToPass(int place) {
    int first = digitAt(place + 1);
    int second = digitAt(place + 2);
    switch (letterAt(place)) {
      case 's': return sheetComes(first, second, digitAt(place + 3));
      case 'o': return officialBecomes(first, second, digitAt(place + 3) * 10 + digitAt(place + 4));
      case 'r': return officialMoves(first, second);
      case 'm': return sheetIsMislaid(first);
      default: break;
    }
    int n = first * 10 + second;
    if (n < 1 || !isRoomForDays(mind.day, n)) return false;
    mind.live(n);
    return true;
  }

  private boolean sheetComes(int kind, int figure, int official) {
    if (kind >= KINDS || !isOfficial(official) || mind.sheets >= SHEETS) return false;
    mind.add(kind, figure, official);
    return true;
  }

  private boolean officialBecomes(int official, int pace, int mercy) {
    if (!isOfficial(official) || pace < 1 || pace > PACE_MOST || mercy > MERCY_MOST) return false;
    mind.pace[official] = pace;
    mind.mercy[official] = mercy;
    return true;
  }

  private boolean officialMoves(int official, int room) {
    if (!isOfficial(official)) return false;
    mind.room[official] = room;
    return true;
  }

  private boolean sheetIsMislaid(int sheet) {
    if (!mind.has(sheet) || mind.state[sheet] == SIGNED) return false;
    mind.loseOrFind(sheet);
    return true;
  }

  private static boolean isRoomForDays(int day, int n) {
    return n <= AHEAD_DAYS && day + n <= DAY_MOST;
  }

  // ---- what there is

  public int officialOf(int official, int what) {
    if (!isOfficial(official)) return refuse(NOBODY);
    switch (what) {
      case 0: return now.pace[official];
      case 1: return now.mercy[official];
      case 2: return now.borne[official];
      case 3: return now.room[official];
      case 4: return now.waitingIn(official);
      default: return refuse(OTHER);
    }
  }

  public int sheetOf(int sheet, int what) {
    if (!now.has(sheet)) return refuse(NOBODY);
    switch (what) {
      case 0: return now.kind[sheet];
      case 1: return now.figure[sheet];
      case 2: return now.state[sheet];
      case 3: return now.state[sheet] == MISLAID ? NONE : now.at[sheet];
      case 4: return now.minutes[sheet];
      case 5: return Kinds.weight(now.kind[sheet], now.figure[sheet]);
      case 6: return Kinds.rings(now.kind[sheet], now.minutes[sheet]);
      case 7: return Kinds.haste(now.kind[sheet]);
      default: return refuse(OTHER);
    }
  }

  // ---- what changes it

  public int sheet(int kind, int figure, int official) {
    if (kind < 0 || kind >= KINDS) return refuse(OTHER);
    if (figure < 0) return refuse(BELOW);
    if (figure > FIGURE_MOST || now.sheets >= SHEETS) return refuse(ROOM);
    if (!isOfficial(official)) return refuse(NOBODY);
    past.forget();
    return now.add(kind, figure, official);
  }

  public int sets(int official, int what, int v) {
    if (!isOfficial(official)) return refuse(NOBODY);
    switch (what) {
      case 0: return setsOne(now.pace, official, v, 1, PACE_MOST);
      case 1: return setsOne(now.mercy, official, v, 0, MERCY_MOST);
      case 2: return setsOne(now.room, official, v, 0, ROOM_MOST);
      default: return refuse(OTHER);
    }
  }

  private int setsOne(int[] ofOfficials, int official, int v, int least, int greatest) {
    if (v < least) return refuse(BELOW);
    if (v > greatest) return refuse(ROOM);
    past.keep(now);
    int before = ofOfficials[official];
    ofOfficials[official] = v;
    return before;
  }

  public int mislays(int sheet) {
    if (!now.has(sheet)) return refuse(NOBODY);
    if (now.state[sheet] == SIGNED) return refuse(STATE);
    past.keep(now);
    now.loseOrFind(sheet);
    return now.howMany(MISLAID);
  }

  public int moves(int sheet, int official) {
    if (!now.has(sheet) || !isOfficial(official)) return refuse(NOBODY);
    if (now.state[sheet] != WAITING) return refuse(STATE);
    past.keep(now);
    now.putBehind(sheet, official);
    return now.waitingIn(official);
  }

  public int days(int n) {
    if (n < 1) return refuse(BELOW);
    if (!isRoomForDays(now.day, n)) return refuse(ROOM);
    past.keep(now);
    now.live(n);
    return now.howMany(SIGNED);
  }

  public int back() {
    if (past.kept == 0) return refuse(STATE);
    past.giveBack(now);
    return past.kept;
  }

  // ---- in mind, some days on

  public int behind(int sheet, int n, int what) {
    if (!now.has(sheet)) return refuse(NOBODY);
    if (n < 0) return refuse(BELOW);
    if (n > AHEAD_DAYS) return refuse(ROOM);
    if (what < 0 || what > 2) return refuse(OTHER);
    thinkAhead(n);
    if (what == 2) return mind.minutes[sheet];
    if (mind.state[sheet] != WAITING) return NONE;
    return what == 0 ? mind.at[sheet] : mind.placeOf(sheet);
  }

  public int then(int official, int n, int what) {
    if (!isOfficial(official)) return refuse(NOBODY);
    if (n < 0) return refuse(BELOW);
    if (n > AHEAD_DAYS) return refuse(ROOM);
    if (what < 0 || what > 2) return refuse(OTHER);
    thinkAhead(n);
    if (what == 0) return mind.borne[official];
    return what == 1 ? mind.waitingIn(official) : mind.howMany(SIGNED);
  }

  public int signed(int sheet, int what) {
    if (!now.has(sheet)) return refuse(NOBODY);
    if (what != 0 && what != 1) return refuse(OTHER);
    thinkAhead(AHEAD_DAYS);
    if (mind.state[sheet] != SIGNED) return NONE;
    return what == 0 ? mind.signedOn[sheet] : mind.at[sheet];
  }

  public int all(int what) {
    if (what < 0 || what > 2) return refuse(OTHER);
    thinkAhead(AHEAD_DAYS);
    if (what == 0) return firstSigned();
    if (what == 2) return mind.those(WAITING);
    return mind.howMany(WAITING) == 0 ? lastSignedOn() : NONE;
  }

  private int firstSigned() {
    int first = NONE;
    for (int s = 0; s < mind.sheets; s++) {
      if (mind.signedOn[s] > 0 && (first < 0 || mind.signedOn[s] < mind.signedOn[first])) first = s;
    }
    return first;
  }

  private int lastSignedOn() {
    int last = 0;
    for (int s = 0; s < mind.sheets; s++) {
      last = Math.max(last, mind.signedOn[s]);
    }
    return last;
  }

  public int bestTray(int sheet, int what) {
    if (!now.has(sheet)) return refuse(NOBODY);
    if (what != 0 && what != 1) return refuse(OTHER);
    if (now.state[sheet] != WAITING) return refuse(STATE);
    int best = NONE;
    int soonest = NONE;
    for (int o = 0; o < OFFICIALS; o++) {
      mind.begin(now);
      mind.putBehind(sheet, o);
      mind.live(AHEAD_DAYS);
      if (isSooner(mind.signedOn[sheet], soonest)) {
        best = o;
        soonest = mind.signedOn[sheet];
      }
    }
    return what == 0 ? best : soonest;
  }

  public int up() {
    thinkAhead(AHEAD_DAYS);
    noteAsItIs();
    int sooner = 0;
    for (int s = 0; s < now.sheets; s++) {
      if (now.state[s] != WAITING) continue;
      mind.begin(now);
      mind.putAhead(s);
      mind.live(AHEAD_DAYS);
      if (isSooner(mind.signedOn[s], signedAsItIs[s])) sooner |= 1 << s;
    }
    return sooner;
  }

  public int wanted(int official, int n, int what) {
    if (!isOfficial(official)) return refuse(NOBODY);
    if (n < 0) return refuse(BELOW);
    if (n > AHEAD_DAYS) return refuse(ROOM);
    if (what != 0 && what != 1) return refuse(OTHER);
    int changed = what == 0 ? MERCY_CHANGED : PACE_CHANGED;
    for (int v = leastOf(changed); v <= mostOf(changed); v++) {
      thinkWith(official, changed, v);
      mind.live(n);
      if (mind.howMany(WAITING) == 0) return v;
    }
    return NONE;
  }

  public int who(int sheet) {
    if (!now.has(sheet)) return refuse(NOBODY);
    int willing = 0;
    for (int o = 0; o < OFFICIALS; o++) {
      if (now.isWilling(o, sheet)) willing |= 1 << o;
    }
    return willing;
  }

  public int rounds(int sheet) {
    if (sheet != -1 && !now.has(sheet)) return refuse(NOBODY);
    thinkAhead(AHEAD_DAYS);
    if (sheet != -1) return mind.roundOn[sheet];
    int round = 0;
    for (int s = 0; s < mind.sheets; s++) {
      if (mind.roundOn[s] != NONE) round++;
    }
    return round;
  }

  public int fair(int what) {
    if (what < 0 || what > 2) return refuse(OTHER);
    if (what == 1) return now.allBorne() / OFFICIALS;
    if (what == 2) return now.allBorne() % OFFICIALS;
    int most = 0;
    int least = BORNE_MOST;
    for (int o = 0; o < OFFICIALS; o++) {
      most = Math.max(most, now.borne[o]);
      least = Math.min(least, now.borne[o]);
    }
    return most - least;
  }

  public int heaviest(int what) {
    if (what != 0 && what != 1) return HEAVIEST_REFUSED - refuse(OTHER);
    int heaviest = NONE;
    for (int s = 0; s < now.sheets; s++) {
      if (now.state[s] == WAITING && (heaviest < 0 || now.loadOf(s) > now.loadOf(heaviest))) heaviest = s;
    }
    return what == 0 || heaviest < 0 ? heaviest : now.loadOf(heaviest);
  }

  // ---- by the row

  public int whose(int official, int what) {
    if (!isOfficial(official)) return refuse(NOBODY);
    if (what < 0 || what > 2) return refuse(OTHER);
    int changed = what == 0 ? PACE_CHANGED : MERCY_CHANGED;
    int bits = 0;
    int least = NONE;
    for (int v = leastOf(changed); v <= mostOf(changed); v++) {
      thinkWith(official, changed, v);
      if (!isTrayCountAsRow(official)) continue;
      bits |= 1 << v;
      if (least == NONE) least = v;
    }
    if (what == 0) return bits;
    return what == 1 ? Integer.bitCount(bits) : least;
  }

  private boolean isTrayCountAsRow(int official) {
    for (int i = 0; i < numbersIn && i < numbers.length; i++) {
      if (i > 0) mind.live(1);
      if (mind.waitingIn(official) != numbers[i]) return false;
    }
    return true;
  }

  public int which(int sheet, int what) {
    if (!now.has(sheet)) return refuse(NOBODY);
    if (what != 0 && what != 1) return refuse(OTHER);
    int those = 0;
    int several = what == 0 ? KINDS : FIGURE_MOST + 1;
    for (int v = 0; v < several; v++) {
      mind.begin(now);
      if (what == 0) mind.kind[sheet] = v;
      else mind.figure[sheet] = v;
      if (isWayAsRow(sheet)) those |= 1 << v;
    }
    return those;
  }

  private boolean isWayAsRow(int sheet) {
    for (int i = 0; i < numbersIn && i < numbers.length; i++) {
      if (i > 0) mind.live(1);
      int tray = mind.state[sheet] == WAITING ? mind.at[sheet] : TOLD_AS_GONE;
      if (tray != numbers[i]) return false;
    }
    return true;
  }

  // ---- the trolley

  public int trolley(int i) {
    if (i < -1) return refuse(BELOW);
    int stops = 0;
    for (int o = 0; o < OFFICIALS; o++) {
      if (now.waitingIn(o) > 0) stops++;
    }
    int order = shortestOrder(stops);
    if (i == -1) return wayOf(order, stops);
    return i < stops ? stopOf(order, stops, i) : NONE;
  }

  /** An order is told by a number, each stop two bits, the first the highest, so that orders go by numbers. */
  private int shortestOrder(int stops) {
    int first = 0;
    int shortest = NONE;
    for (int order = 0; order < 1 << (2 * stops); order++) {
      int way = wayOf(order, stops);
      if (way >= 0 && (shortest < 0 || way < shortest)) {
        first = order;
        shortest = way;
      }
    }
    return first;
  }

  /** The way in an order; -9 if one is in it twice or has nothing in his tray. */
  private int wayOf(int order, int stops) {
    int been = 0;
    int room = 0;
    int way = 0;
    for (int i = 0; i < stops; i++) {
      int o = stopOf(order, stops, i);
      if ((been >> o & 1) != 0 || now.waitingIn(o) == 0) return NONE;
      been |= 1 << o;
      way += Math.abs(now.room[o] - room);
      room = now.room[o];
    }
    return way;
  }

  private static int stopOf(int order, int stops, int i) {
    return order >> (2 * (stops - 1 - i)) & 3;
  }

  // ---- two officials, and holidays

  public int two(int one, int other) {
    if (!isOfficial(one) || !isOfficial(other) || one == other) return refuse(NOBODY);
    for (int pair = 0; pair < PAIRS; pair++) {
      mind.begin(now);
      mind.mercy[one] += (pair >> 1) * MORE_MERCY;
      mind.mercy[other] += (pair & 1) * MORE_MERCY;
      mind.live(DECADE);
      borneByOne[pair] = mind.borne[one] - now.borne[one];
      borneByOther[pair] = mind.borne[other] - now.borne[other];
    }
    for (int pair = 0; pair < PAIRS; pair++) {
      boolean oneStays = borneByOne[pair] <= borneByOne[pair ^ 2];
      boolean otherStays = borneByOther[pair] <= borneByOther[pair ^ 1];
      if (oneStays && otherStays) return (pair >> 1) * 10 + (pair & 1);
    }
    return NONE;
  }

  public long holidays(int official, int sheet, int n, int t, int part) {
    if (!isOfficial(official) || !now.has(sheet)) return LONG_REFUSED - refuse(NOBODY);
    if (n < 0 || t < 2) return LONG_REFUSED - refuse(BELOW);
    if (n > HOLIDAYS_MOST || t > ODDS_MOST) return LONG_REFUSED - refuse(ROOM);
    if (part != 0 && part != 1) return LONG_REFUSED - refuse(OTHER);
    long above = 0;
    for (int absences = 0; absences < 1 << n; absences++) {
      mind.begin(now);
      for (int d = 0; d < n; d++) {
        mind.away = (absences >> d & 1) != 0 ? official : NONE;
        mind.live(1);
      }
      if (mind.state[sheet] == SIGNED) above += power(t - 1, n - Integer.bitCount(absences));
    }
    return inLowestTerms(above, power(t, n), part);
  }

  private static long power(long base, int times) {
    long product = 1;
    for (int i = 0; i < times; i++) {
      product *= base;
    }
    return product;
  }

  private static long inLowestTerms(long above, long below, int part) {
    long common = greatestCommon(above, below);
    if (common == 0) return 0;
    return part == 0 ? above / common : below / common;
  }

  private static long greatestCommon(long one, long other) {
    long greater = one;
    long rest = other;
    // Euclid's steps for two longs are fewer than a hundred
    for (int i = 0; i < 100 && rest != 0; i++) {
      long next = greater % rest;
      greater = rest;
      rest = next;
    }
    return greater;
  }

  // ---- the fullest, the longest, who comes next

  public int fullest(int what) {
    if (what != 0 && what != 1) return refuse(OTHER);
    int fullest = 0;
    for (int o = 1; o < OFFICIALS; o++) {
      if (now.waitingIn(o) > now.waitingIn(fullest)) fullest = o;
    }
    return what == 0 ? fullest : now.waitingIn(fullest);
  }

  public int longest(int what) {
    if (what != 0 && what != 1) return refuse(OTHER);
    int longest = NONE;
    for (int s = 0; s < now.sheets; s++) {
      if (now.state[s] == WAITING && (longest < 0 || now.minutes[s] > now.minutes[longest])) longest = s;
    }
    return what == 0 || longest < 0 ? longest : now.minutes[longest];
  }

  public int top(int official) {
    if (!isOfficial(official)) return refuse(NOBODY);
    return now.nextTaken(official, now.nextRank);
  }

  public int queue(int official, int sheet) {
    if (!isOfficial(official) || !now.has(sheet)) return refuse(NOBODY);
    if (!now.liesIn(sheet, official)) return NONE;
    int ahead = 0;
    for (int s = 0; s < now.sheets; s++) {
      if (now.liesIn(s, official) && now.isTakenAhead(s, sheet)) ahead++;
    }
    return ahead;
  }

  // ---- without one of them

  public int clerk() {
    int clerk = 0;
    int most = NONE;
    for (int o = 0; o < OFFICIALS; o++) {
      mind.begin(now);
      mind.dismiss(o);
      mind.live(MONTH);
      if (mind.howMany(SIGNED) > most) {
        clerk = o;
        most = mind.howMany(SIGNED);
      }
    }
    return clerk;
  }

  public int light() {
    thinkAhead(MONTH);
    noteAsItIs();
    int signedInAll = mind.howMany(SIGNED);
    int light = NONE;
    int most = NONE;
    for (int s = 0; s < now.sheets; s++) {
      if (now.state[s] != WAITING) continue;
      mind.begin(now);
      mind.loseOrFind(s);
      mind.live(MONTH);
      int others = mind.howMany(SIGNED);
      int othersAsItIs = signedAsItIs[s] == NONE ? signedInAll : signedInAll - 1;
      if (others > othersAsItIs && others > most) {
        light = s;
        most = others;
      }
    }
    return light;
  }

  // ---- counts of days and passings

  public long average(int part) {
    if (part != 0 && part != 1) return LONG_REFUSED - refuse(OTHER);
    return inLowestTerms(now.allMinutes(), Math.max(now.sheets, 1), part);
  }

  public int same() {
    thinkAhead(AHEAD_DAYS);
    int twos = 0;
    for (int s = 0; s < mind.sheets; s++) {
      for (int r = 0; r < s; r++) {
        if (mind.signedOn[s] > 0 && mind.signedOn[s] == mind.signedOn[r]) twos++;
      }
    }
    return twos;
  }

  public int busy(int official, int n) {
    if (!isOfficial(official)) return refuse(NOBODY);
    if (n < 0) return refuse(BELOW);
    if (n > AHEAD_DAYS) return refuse(ROOM);
    thinkAhead(n);
    return mind.busyDays[official];
  }

  public int passed(int n) {
    if (n < 0) return refuse(BELOW);
    if (n > AHEAD_DAYS) return refuse(ROOM);
    thinkAhead(n);
    int passings = 0;
    for (int s = 0; s < mind.sheets; s++) {
      passings += mind.passings[s];
    }
    return passings;
  }

  // ---- the row

  public int row(int v) {
    if (v < 0) return refuse(BELOW);
    if (v > ROW_GREATEST || numbersIn >= ROW_MOST) return refuse(ROOM);
    numbers[numbersIn] = v;
    numbersIn++;
    return numbersIn;
  }

  public int judge(int official) {
    if (!isOfficial(official)) return refuse(NOBODY);
    int wrong = firstNotSo(official);
    numbersIn = 0;
    return wrong;
  }

  private int firstNotSo(int official) {
    for (int i = 0; i < numbersIn && i < numbers.length; i++) {
      int told = numbers[i];
      if (!now.has(told) || !now.liesIn(told, official) || now.placeOf(told) != i) return i;
    }
    return NONE;
  }

  public int clear() {
    int had = numbersIn;
    numbersIn = 0;
    return had;
  }

  // ---- lots

  public int lots(int n, int z, int what) {
    if (n < 1) return refuse(BELOW);
    if (n > LOTS_MOST) return refuse(ROOM);
    if (what != 0 && what != 1) return refuse(OTHER);
    seed = z;
    int more = 0;
    for (int i = 0; i < n; i++) {
      mind.begin(now);
      dealTrays();
      mind.live(DECADE);
      if (what == 0) more += mind.howMany(SIGNED) - now.howMany(SIGNED);
      else more += mind.allBorne() - now.allBorne();
    }
    return more;
  }

  private void dealTrays() {
    for (int s = 0; s < mind.sheets; s++) {
      if (mind.state[s] == WAITING) mind.putBehind(s, drawTray());
    }
  }

  private int drawTray() {
    seed = seed * 1103515245 + 12345;
    return (seed & 0x7fffffff) / 65536 % OFFICIALS;
  }

  // ---- the image

  public int image() {
    picture.takeOver(now);
    pictured = true;
    return now.day;
  }

  public int restore() {
    if (!pictured) return refuse(STATE);
    now.takeOver(picture);
    past.forget();
    return now.day;
  }

  public int count(int what) {
    switch (what) {
      case 0: return now.sheets;
      case 1: return now.day;
      case 2: return now.those(WAITING);
      case 3: return now.those(SIGNED);
      case 4: return now.those(MISLAID);
      case 5: return now.allBorne();
      case 6: return now.allMinutes();
      case 7: return lettersIn;
      case 8: return numbersIn;
      case 9: return past.kept;
      default: return what >= 11 && what <= 16 ? refusals[what - 10] : NONE;
    }
  }

  // ---- what several calls use

  private int refuse(int refusal) {
    if (refusal <= NOBODY && refusal >= ROOM) refusals[-refusal]++;
    return refusal;
  }

  private static boolean isOfficial(int official) {
    return official >= 0 && official < OFFICIALS;
  }

  private static boolean isSooner(int day, int than) {
    return day != NONE && (than == NONE || day < than);
  }

  private void thinkAhead(int n) {
    mind.begin(now);
    mind.live(n);
  }

  private static int leastOf(int changed) {
    return changed == PACE_CHANGED ? 1 : 0;
  }

  private static int mostOf(int changed) {
    return changed == PACE_CHANGED ? PACE_MOST : MERCY_MOST;
  }

  /** Begins in mind with another pace or another mercy of one official. */
  private void thinkWith(int official, int changed, int v) {
    mind.begin(now);
    if (changed == PACE_CHANGED) mind.pace[official] = v;
    else mind.mercy[official] = v;
  }

  private void noteAsItIs() {
    System.arraycopy(mind.signedOn, 0, signedAsItIs, 0, SHEETS);
  }

  /** What a sheet of a kind weighs, bears and hastens. */
  private static final class Kinds {
    private Kinds() {
    }

    static int weight(int kind, int figure) {
      int ofSheet = 3 + figure;
      int ofUrgent = ofSheet + 4;
      switch (kind) {
        case URGENT: return ofUrgent;
        case DRAFT: return ofSheet / 2;
        case CARBON: return ofSheet * 2;
        case BULLY: return ofUrgent + figure;
        case SAINT: return 0;
        default: return ofSheet;
      }
    }

    static int part(int kind, int figure) {
      switch (kind) {
        case BULLY: return weight(kind, figure);
        case SAINT: return -1;
        default: return weight(kind, figure) / 3;
      }
    }

    static int rings(int kind, int minutes) {
      switch (kind) {
        case CARBON: return 0;
        case BULLY: return minutes / 2;
        default: return minutes;
      }
    }

    static int haste(int kind) {
      switch (kind) {
        case URGENT: return 2;
        case BULLY: return 1;
        case DRAFT: return 1;
        case SAINT: return 1;
        default: return 0;
      }
    }
  }

  /** The officials, the sheets and the day: all that an image holds. */
  private static class Floor {
    final int[] pace = new int[OFFICIALS];
    final int[] mercy = new int[OFFICIALS];
    final int[] borne = new int[OFFICIALS];
    final int[] room = new int[OFFICIALS];
    final int[] kind = new int[SHEETS];
    final int[] figure = new int[SHEETS];
    final int[] state = new int[SHEETS];
    /** In whose tray a sheet waits, or who signed it. */
    final int[] at = new int[SHEETS];
    final int[] minutes = new int[SHEETS];
    /** Of two sheets in one tray, the one with the lower rank is ahead. */
    final int[] rank = new int[SHEETS];
    int nextRank;
    int sheets;
    int day;

    Floor() {
      for (int o = 0; o < OFFICIALS; o++) {
        pace[o] = 1;
        mercy[o] = 5;
        room[o] = 2 * o;
      }
    }

    final void takeOver(Floor other) {
      System.arraycopy(other.pace, 0, pace, 0, OFFICIALS);
      System.arraycopy(other.mercy, 0, mercy, 0, OFFICIALS);
      System.arraycopy(other.borne, 0, borne, 0, OFFICIALS);
      System.arraycopy(other.room, 0, room, 0, OFFICIALS);
      System.arraycopy(other.kind, 0, kind, 0, SHEETS);
      System.arraycopy(other.figure, 0, figure, 0, SHEETS);
      System.arraycopy(other.state, 0, state, 0, SHEETS);
      System.arraycopy(other.at, 0, at, 0, SHEETS);
      System.arraycopy(other.minutes, 0, minutes, 0, SHEETS);
      System.arraycopy(other.rank, 0, rank, 0, SHEETS);
      nextRank = other.nextRank;
      sheets = other.sheets;
      day = other.day;
    }

    final boolean has(int sheet) {
      return sheet >= 0 && sheet < sheets && sheet < SHEETS;
    }

    final int add(int kindOfIt, int figureOfIt, int official) {
      if (sheets >= SHEETS) return NONE;
      int s = sheets;
      sheets++;
      kind[s] = kindOfIt;
      figure[s] = figureOfIt;
      minutes[s] = 0;
      putBehind(s, official);
      return s;
    }

    final void putBehind(int sheet, int official) {
      state[sheet] = WAITING;
      at[sheet] = official;
      rank[sheet] = nextRank;
      nextRank++;
    }

    final void loseOrFind(int sheet) {
      if (state[sheet] == WAITING) state[sheet] = MISLAID;
      else putBehind(sheet, 0);
    }

    final boolean liesIn(int sheet, int official) {
      return state[sheet] == WAITING && at[sheet] == official;
    }

    final int waitingIn(int official) {
      int waiting = 0;
      for (int s = 0; s < sheets; s++) {
        if (liesIn(s, official)) waiting++;
      }
      return waiting;
    }

    final int placeOf(int sheet) {
      int ahead = 0;
      for (int s = 0; s < sheets; s++) {
        if (liesIn(s, at[sheet]) && rank[s] < rank[sheet]) ahead++;
      }
      return ahead;
    }

    final int those(int inState) {
      int bits = 0;
      for (int s = 0; s < sheets; s++) {
        if (state[s] == inState) bits |= 1 << s;
      }
      return bits;
    }

    final int howMany(int inState) {
      return Integer.bitCount(those(inState));
    }

    final int allBorne() {
      int sum = 0;
      for (int o = 0; o < OFFICIALS; o++) {
        sum += borne[o];
      }
      return sum;
    }

    final int allMinutes() {
      int sum = 0;
      for (int s = 0; s < sheets; s++) {
        sum += minutes[s];
      }
      return sum;
    }

    /** Weight less rings. */
    final int loadOf(int sheet) {
      return Kinds.weight(kind[sheet], figure[sheet]) - Kinds.rings(kind[sheet], minutes[sheet]);
    }

    final boolean isWilling(int official, int sheet) {
      return loadOf(sheet) <= mercy[official];
    }

    final boolean isTakenAhead(int one, int other) {
      int more = Kinds.haste(kind[one]) - Kinds.haste(kind[other]);
      return more > 0 || more == 0 && rank[one] < rank[other];
    }

    /** The sheet that an official takes next of those in his tray with a rank below one; -9 none. */
    final int nextTaken(int official, int belowRank) {
      int next = NONE;
      for (int s = 0; s < sheets; s++) {
        boolean lies = liesIn(s, official) && rank[s] < belowRank;
        if (lies && (next < 0 || isTakenAhead(s, next))) next = s;
      }
      return next;
    }

    final void live(int n) {
      for (int i = 0; i < n; i++) {
        day++;
        noteDay();
        for (int o = 0; o < OFFICIALS; o++) {
          if (isThere(o)) work(o);
        }
      }
    }

    private void work(int official) {
      // what he passes on to himself gets a rank from here on, and is not taken again
      int beginning = nextRank;
      for (int i = 0; i < pace[official]; i++) {
        int sheet = nextTaken(official, beginning);
        if (sheet < 0) return;
        if (i == 0) noteBusy(official);
        if (isWilling(official, sheet)) sign(official, sheet);
        else passOn(official, sheet);
      }
    }

    private void sign(int official, int sheet) {
      int more = borne[official] + Kinds.part(kind[sheet], figure[sheet]);
      borne[official] = Math.max(0, Math.min(BORNE_MOST, more));
      state[sheet] = SIGNED;
      at[sheet] = official;
      noteSigned(sheet);
    }

    private void passOn(int official, int sheet) {
      minutes[sheet] = Math.min(MINUTES_MOST, minutes[sheet] + 1);
      putBehind(sheet, kind[sheet] == CARBON ? official : nextOf(official));
      notePassed(sheet);
    }

    boolean isThere(int official) {
      return true;
    }

    int nextOf(int official) {
      return (official + 1) % OFFICIALS;
    }

    void noteDay() {
    }

    void noteBusy(int official) {
    }

    void noteSigned(int sheet) {
    }

    void notePassed(int sheet) {
    }
  }

  /** A floor on which days go by in mind, with what is to be known of them. */
  private static final class Mind extends Floor {
    int elapsed;
    /** Behind how many days a sheet is signed; 0 it was so at the beginning; -9 not signed. */
    final int[] signedOn = new int[SHEETS];
    final int[] passings = new int[SHEETS];
    final int[] roundOn = new int[SHEETS];
    final int[] busyDays = new int[OFFICIALS];
    /** Who takes nothing. */
    int away = NONE;
    /** Who is passed over. */
    int dismissed = NONE;

    void begin(Floor from) {
      takeOver(from);
      elapsed = 0;
      away = NONE;
      dismissed = NONE;
      for (int s = 0; s < SHEETS; s++) {
        signedOn[s] = s < sheets && state[s] == SIGNED ? 0 : NONE;
        passings[s] = 0;
        roundOn[s] = NONE;
      }
      for (int o = 0; o < OFFICIALS; o++) {
        busyDays[o] = 0;
      }
    }

    /** His tray goes to the next in its order, and he is passed over from now on. */
    void dismiss(int official) {
      int beginning = nextRank;
      for (int i = 0; i < SHEETS; i++) {
        int sheet = aheadIn(official, beginning);
        if (sheet >= 0) putBehind(sheet, nextOf(official));
      }
      dismissed = official;
    }

    private int aheadIn(int official, int belowRank) {
      int ahead = NONE;
      for (int s = 0; s < sheets; s++) {
        boolean lies = liesIn(s, official) && rank[s] < belowRank;
        if (lies && (ahead < 0 || rank[s] < rank[ahead])) ahead = s;
      }
      return ahead;
    }

    void putAhead(int sheet) {
      // ranks begin with 0, so this one is the lowest
      rank[sheet] = -1;
    }

    boolean isThere(int official) {
      return official != away && official != dismissed;
    }

    int nextOf(int official) {
      int next = (official + 1) % OFFICIALS;
      return next == dismissed ? (next + 1) % OFFICIALS : next;
    }

    void noteDay() {
      elapsed++;
    }

    void noteBusy(int official) {
      busyDays[official]++;
    }

    void noteSigned(int sheet) {
      signedOn[sheet] = elapsed;
    }

    void notePassed(int sheet) {
      passings[sheet]++;
      if (passings[sheet] == ROUND_PASSINGS) roundOn[sheet] = elapsed;
    }
  }

  /** The floors as they were ahead of the latest changes, in a ring, so that none is made anew. */
  private static final class Past {
    private final Floor[] floors = new Floor[PAST_MOST];
    private int latest;
    int kept;

    Past() {
      for (int i = 0; i < PAST_MOST; i++) {
        floors[i] = new Floor();
      }
    }

    void keep(Floor floor) {
      latest = (latest + 1) % PAST_MOST;
      Floor free = floors[latest];
      if (free != null) free.takeOver(floor);
      kept = Math.min(PAST_MOST, kept + 1);
    }

    void giveBack(Floor floor) {
      Floor before = floors[latest];
      if (before != null) floor.takeOver(before);
      latest = (latest + PAST_MOST - 1) % PAST_MOST;
      kept = Math.max(0, kept - 1);
    }

    void forget() {
      kept = 0;
    }
  }
}
