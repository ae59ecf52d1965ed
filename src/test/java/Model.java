import java.math.BigInteger;
import java.util.ArrayList;
import java.util.Arrays;
import java.util.List;
import java.util.regex.Matcher;
import java.util.regex.Pattern;

/**
 * The document once more, written the slow way and apart from the class: what ModelTest holds the
 * class against. Every call answers a long; an exception is told as one of the two numbers below.
 */
final class Model {
  static final long ILLEGAL_ARGUMENT = -7000001;
  static final long ILLEGAL_STATE = -7000002;
  private static final Pattern CAPE =
      Pattern.compile("(?:p[0-9]{2};|s[0-9]{3};|b[0-9]{2};|l[0-9];|w[0-9];|n[0-9]{2};)+");

  /** One sailor. */
  static final class Man {
    int kind;
    int figure;
    int boat = 9;
    boolean lost;

    Man(int kind, int figure) {
      this.kind = kind;
      this.figure = figure;
    }

    boolean ghost() {
      return kind == 3 || kind == 7;
    }

    int skill() {
      int[] by = {figure, figure + 3, figure / 2, 0, 2 * figure + 6, figure / 2 + 1, figure, 9};
      return by[kind];
    }

    int risk(int season) {
      int odd = season % 2;
      int plain = figure % 5;
      int[] by = {plain, 0, plain + 4, 0, 1, plain + 4 - odd, (figure + season) % 10, 0};
      return by[kind];
    }

    int reach() {
      int third = figure / 3;
      int[] by = {3 + third, 6 + third, 1, 0, 5 + third, 2, 3 + third, 9};
      return by[kind];
    }

    int pay() {
      int[] by = {2, 2 + figure, 1, 0, 4 + 2 * figure, 1, 3, 0};
      return by[kind];
    }

    static int cost(int kind, int figure) {
      int[] by = {2, 2 + figure, 1, 9, 4 + 2 * figure, 4, 6, 4};
      return by[kind];
    }
  }

  /** A state of all but shelves and the image. */
  static final class World {
    List<Man> men = new ArrayList<>();
    int[][] how = new int[8][8];
    int law = 2;
    int sea = 5;
    int season = 0;

    World again() {
      World w = new World();
      for (Man m : men) {
        Man n = new Man(m.kind, m.figure);
        n.boat = m.boat;
        n.lost = m.lost;
        w.men.add(n);
      }
      for (int i = 0; i < 8; i++) {
        w.how[i] = how[i].clone();
      }
      w.law = law;
      w.sea = sea;
      w.season = season;
      return w;
    }

    boolean is(int p) {
      return 0 <= p && p < men.size();
    }

    boolean are(int p, int q) {
      return is(p) && is(q) && p != q;
    }

    boolean counts(int p, int q, int byLaw) {
      int needed = byLaw == 0 ? 1 : byLaw;
      return how[p][q] >= needed;
    }

    boolean may(int p, int q, int byLaw) {
      boolean clean = !counts(p, q, byLaw) && !counts(q, p, byLaw);
      return clean || men.get(p).ghost() || men.get(q).ghost();
    }

    boolean peace(List<Integer> crew, int byLaw) {
      for (int p : crew) {
        for (int q : crew) {
          if (p != q && !may(p, q, byLaw)) {
            return false;
          }
        }
      }
      return true;
    }

    List<Integer> crew(int boat) {
      List<Integer> list = new ArrayList<>();
      for (int p = 0; p < men.size(); p++) {
        if (men.get(p).boat == boat && !men.get(p).lost) {
          list.add(p);
        }
      }
      return list;
    }

    int lostCount() {
      int n = 0;
      for (Man m : men) {
        n += m.lost ? 1 : 0;
      }
      return n;
    }

    int faller(int boat, int when) {
      List<Integer> crew = crew(boat);
      if (crew.isEmpty()) {
        return -4;
      }
      int most = crew.stream().mapToInt(p -> men.get(p).risk(when)).max().getAsInt();
      if (most <= 0 || most < sea) {
        return -4;
      }
      return crew.stream().filter(p -> men.get(p).risk(when) == most).findFirst().get();
    }

    int saver(int boat, int faller, int when) {
      List<Integer> others = crew(boat);
      others.remove(Integer.valueOf(faller));
      if (others.isEmpty()) {
        return -4;
      }
      int most = others.stream().mapToInt(p -> men.get(p).reach()).max().getAsInt();
      if (most < men.get(faller).risk(when)) {
        return -4;
      }
      return others.stream().filter(p -> men.get(p).reach() == most).findFirst().get();
    }

    void season(boolean still) {
      season++;
      for (int boat = 0; boat < 3 && !still; boat++) {
        int p = faller(boat, season);
        if (p == -4) {
          continue;
        }
        int q = saver(boat, p, season);
        if (q == -4) {
          men.get(p).lost = true;
          men.get(p).boat = 9;
          continue;
        }
        int margin = men.get(q).reach() - men.get(p).risk(season);
        how[q][p] = margin == 0 ? 1 : margin < 3 ? 2 : 3;
        if (!may(p, q, law)) {
          men.get(q).boat = 9;
        }
      }
    }

    World on(int n) {
      World w = again();
      for (int i = 0; i < n; i++) {
        w.season(false);
      }
      return w;
    }

    List<List<Integer>> lawfulSets(int byLaw) {
      List<List<Integer>> sets = new ArrayList<>();
      for (int bits = 0; bits < 1 << men.size(); bits++) {
        List<Integer> set = new ArrayList<>();
        for (int p = 0; p < men.size(); p++) {
          if ((bits & 1 << p) != 0) {
            set.add(p);
          }
        }
        boolean alive = set.stream().noneMatch(p -> men.get(p).lost);
        if (alive && peace(set, byLaw)) {
          sets.add(set);
        }
      }
      return sets;
    }

    int sumSkill(List<Integer> set) {
      return set.stream().mapToInt(p -> men.get(p).skill()).sum();
    }

    int sumPay(List<Integer> set) {
      return set.stream().mapToInt(p -> men.get(p).pay()).sum();
    }
  }

  /** What a shelf holds: a row if cells is set, else a kind with a figure. */
  static final class Thing {
    int kind;
    int figure;
    int sort;
    long[] cells;
  }

  World w = new World();
  World image;
  Thing[] shelves = new Thing[8];

  private static boolean in(int v, int a, int b) {
    return a <= v && v <= b;
  }

  private static int bits(List<Integer> set) {
    int b = 0;
    for (int p : set) {
      b += 1 << p;
    }
    return b;
  }

  private static long part(long a, long b, int part) {
    if (b == 0) {
      return part == 0 ? 0 : 1;
    }
    BigInteger x = BigInteger.valueOf(a);
    BigInteger y = BigInteger.valueOf(b);
    BigInteger g = x.gcd(y);
    return (part == 0 ? x : y).divide(g).longValueExact();
  }

  private long rowFault(int d) {
    if (!in(d, 0, 7)) {
      return -1;
    }
    if (shelves[d] == null) {
      return -11;
    }
    return shelves[d].cells == null ? -12 : 0;
  }

  private long kindFault(int d) {
    if (!in(d, 0, 7)) {
      return -1;
    }
    if (shelves[d] == null) {
      return -11;
    }
    return shelves[d].cells != null ? -12 : 0;
  }

  long cape(int d) {
    if (rowFault(d) != 0) {
      return rowFault(d);
    }
    if (shelves[d].sort != 0) {
      return -12;
    }
    StringBuilder b = new StringBuilder();
    for (long c : shelves[d].cells) {
      b.append((char) (c & 255));
    }
    String text = b.toString();
    for (int i = 0; i < text.length(); i++) {
      Matcher m = CAPE.matcher(text.substring(0, i + 1));
      if (!m.matches() && !m.hitEnd()) {
        return -1000 - i;
      }
    }
    if (!CAPE.matcher(text).matches()) {
      return -1000 - text.length();
    }
    World before = w;
    w = w.again();
    int place = 0;
    String[] statements = text.split(";");
    for (String s : statements) {
      if (!does(s)) {
        w = before;
        return -2000 - place;
      }
      place += s.length() + 1;
    }
    return statements.length;
  }

  private boolean does(String s) {
    int number = Integer.parseInt(s.substring(1));
    int a = s.charAt(1) - '0';
    int b = s.length() > 2 ? s.charAt(2) - '0' : 0;
    switch (s.charAt(0)) {
      case 'p':
        if (a > 7 || w.men.size() == 8) {
          return false;
        }
        w.men.add(new Man(a, b));
        return true;
      case 's':
        return saves(a, b, number % 10) >= 0;
      case 'b':
        if (b == 9 && w.is(a) && w.men.get(a).lost) {
          return true;
        }
        return boards(a, b) >= 0;
      case 'l':
        return sets(0, number) >= 0;
      case 'w':
        return sets(1, number) >= 0;
      default:
        return seasons(number) >= 0;
    }
  }

  long sailor(int p, int what) {
    if (!w.is(p) || !in(what, 0, 7)) {
      return -1;
    }
    Man m = w.men.get(p);
    int[] all = {m.kind, m.figure, m.boat, m.lost ? 1 : 0, m.skill(), m.risk(w.season), m.reach(), m.pay()};
    return all[what];
  }

  long saved(int p, int q) {
    return w.are(p, q) ? w.how[p][q] : -1;
  }

  long comes(int d) {
    if (kindFault(d) != 0) {
      return kindFault(d);
    }
    if (w.men.size() == 8) {
      return -2;
    }
    w.men.add(new Man(shelves[d].kind, shelves[d].figure));
    return w.men.size() - 1;
  }

  long saves(int p, int q, int v) {
    if (!w.are(p, q) || !in(v, 0, 3)) {
      return -1;
    }
    int was = w.how[p][q];
    w.how[p][q] = v;
    return was;
  }

  long boards(int p, int boat) {
    if (!w.is(p) || !(in(boat, 0, 2) || boat == 9)) {
      return -1;
    }
    Man m = w.men.get(p);
    if (m.lost) {
      return -3;
    }
    int was = m.boat;
    m.boat = boat;
    return was;
  }

  long sets(int what, int v) {
    int was = what == 0 ? w.law : w.sea;
    if (what == 0 && in(v, 0, 3)) {
      w.law = v;
    } else if (what == 1 && in(v, 0, 9)) {
      w.sea = v;
    } else {
      return -1;
    }
    return was;
  }

  long seasons(int n) {
    if (!in(n, 1, 60)) {
      return -1;
    }
    if (w.season + n >= 1000) {
      return -3;
    }
    w = w.on(n);
    return w.lostCount();
  }

  long may(int p, int q) {
    return !w.are(p, q) ? -1 : w.may(p, q, w.law) ? 1 : 0;
  }

  long with(int p) {
    if (!w.is(p)) {
      return -1;
    }
    int b = 0;
    for (int q = 0; q < w.men.size(); q++) {
      b += q != p && w.may(q, p, w.law) && !w.men.get(q).lost ? 1 << q : 0;
    }
    return b;
  }

  long lawful(int boat) {
    return !in(boat, 0, 2) ? -1 : w.peace(w.crew(boat), w.law) ? 1 : 0;
  }

  private List<Integer> largestSet(int byLaw) {
    List<Integer> best = new ArrayList<>();
    for (List<Integer> set : w.lawfulSets(byLaw)) {
      best = set.size() > best.size() ? set : best;
    }
    return best;
  }

  long largest(int what) {
    if (!in(what, 0, 1)) {
      return -1;
    }
    List<Integer> best = largestSet(w.law);
    return what == 0 ? bits(best) : best.size();
  }

  private boolean seat(List<Integer> where, int boats) {
    int p = where.size();
    if (p == w.men.size()) {
      return true;
    }
    if (w.men.get(p).lost) {
      where.add(-4);
      if (seat(where, boats)) {
        return true;
      }
      where.remove(p);
      return false;
    }
    for (int b = 0; b < boats; b++) {
      boolean fits = true;
      for (int q = 0; q < p; q++) {
        fits &= where.get(q) != b || w.may(p, q, w.law);
      }
      if (fits) {
        where.add(b);
        if (seat(where, boats)) {
          return true;
        }
        where.remove(p);
      }
    }
    return false;
  }

  long fewestBoats(int p) {
    if (p != -1 && !w.is(p)) {
      return -1;
    }
    for (int boats = 0; boats <= 8; boats++) {
      List<Integer> where = new ArrayList<>();
      if (seat(where, boats)) {
        return p == -1 ? boats : where.get(p);
      }
    }
    throw new IllegalStateException("no number of boats is enough");
  }

  long manned(int a, int b, int c, int p) {
    if (!in(a, 0, 4) || !in(b, 0, 4) || !in(c, 0, 4) || (p != -1 && !w.is(p))) {
      return -1;
    }
    int n = w.men.size();
    for (int code = 0; code < 1 << 2 * n; code++) {
      int[] seat = new int[n];
      List<List<Integer>> crews = Arrays.asList(
          new ArrayList<>(), new ArrayList<>(), new ArrayList<>(), new ArrayList<>());
      for (int i = 0; i < n; i++) {
        seat[i] = code >> 2 * (n - 1 - i) & 3;
        crews.get(seat[i]).add(i);
      }
      boolean good = crews.get(0).size() == a && crews.get(1).size() == b && crews.get(2).size() == c;
      for (int boat = 0; boat < 3 && good; boat++) {
        good = w.peace(crews.get(boat), w.law)
            && crews.get(boat).stream().noneMatch(i -> w.men.get(i).lost);
      }
      if (good) {
        return p == -1 ? 1 : seat[p] == 3 ? 9 : seat[p];
      }
    }
    return p == -1 ? 0 : -4;
  }

  long bestCrew(int n, int what) {
    if (!in(n, 1, 5) || !in(what, 0, 1)) {
      return -1;
    }
    List<Integer> best = null;
    for (List<Integer> set : w.lawfulSets(w.law)) {
      if (set.size() == n && (best == null || w.sumSkill(set) > w.sumSkill(best))) {
        best = set;
      }
    }
    return best == null ? -4 : what == 0 ? bits(best) : w.sumSkill(best);
  }

  long cheapest(int v, int what) {
    if (!in(v, 0, 60) || !in(what, 0, 1)) {
      return -1;
    }
    List<Integer> best = null;
    for (List<Integer> set : w.lawfulSets(w.law)) {
      if (w.sumSkill(set) >= v && (best == null || w.sumPay(set) < w.sumPay(best))) {
        best = set;
      }
    }
    return best == null ? -4 : what == 0 ? bits(best) : w.sumPay(best);
  }

  long quarrels() {
    long n = 0;
    for (int p = 0; p < w.men.size(); p++) {
      for (int q = 0; q < p; q++) {
        boolean alive = !w.men.get(p).lost && !w.men.get(q).lost;
        n += alive && !w.may(p, q, w.law) ? 1 : 0;
      }
    }
    return n;
  }

  long strictest(int n) {
    if (!in(n, 1, 8)) {
      return -1;
    }
    for (int law = 0; law <= 3; law++) {
      if (largestSet(law).size() >= n) {
        return law;
      }
    }
    return -4;
  }

  long freeLaw(int p, int q) {
    if (!w.are(p, q)) {
      return -1;
    }
    if (w.men.get(p).ghost() || w.men.get(q).ghost()) {
      return 4;
    }
    int most = Math.max(w.how[p][q], w.how[q][p]);
    return new int[] {4, 2, 1, 0}[most];
  }

  long owed(int p) {
    if (!w.is(p)) {
      return -1;
    }
    long n = 0;
    for (int q = 0; q < w.men.size(); q++) {
      n += w.counts(p, q, w.law) ? 1 : 0;
    }
    return n;
  }

  long mostOwed() {
    long best = -4;
    for (int p = w.men.size() - 1; p >= 0; p--) {
      if (owed(p) > 0 && (best < 0 || owed(p) >= owed((int) best))) {
        best = p;
      }
    }
    return best;
  }

  long owes(int p) {
    if (!w.is(p)) {
      return -1;
    }
    long b = 0;
    for (int q = 0; q < w.men.size(); q++) {
      b += w.counts(q, p, w.law) ? 1 << q : 0;
    }
    return b;
  }

  long rings(int what) {
    if (!in(what, 0, 1)) {
      return -1;
    }
    List<Integer> found = new ArrayList<>();
    for (int two = 0; two < 88; two++) {
      int p = two / 10;
      int q = two % 10;
      if (p < q && w.are(p, q) && w.counts(p, q, w.law) && w.counts(q, p, w.law)) {
        found.add(two);
      }
    }
    return what == 0 ? found.size() : found.isEmpty() ? -4 : found.get(0);
  }

  long line(int p, int q) {
    if (!w.are(p, q)) {
      return -1;
    }
    boolean[][] leads = new boolean[8][8];
    for (int i = 0; i < 8; i++) {
      for (int j = 0; j < 8; j++) {
        leads[i][j] = w.are(i, j) && w.counts(i, j, w.law);
      }
    }
    for (int k = 0; k < 8; k++) {
      for (int i = 0; i < 8; i++) {
        for (int j = 0; j < 8; j++) {
          leads[i][j] |= leads[i][k] && leads[k][j];
        }
      }
    }
    return leads[p][q] ? 1 : 0;
  }

  long behind(int p, int n) {
    if (!w.is(p) || !in(n, 0, 60)) {
      return -1;
    }
    Man m = w.on(n).men.get(p);
    return m.lost ? -4 : m.boat;
  }

  long lostIn(int n) {
    return in(n, 0, 60) ? w.on(n).lostCount() : -1;
  }

  long unmanned() {
    World then = w.again();
    for (int n = 0; n <= 60; n++) {
      for (int b = 0; b < 3; b++) {
        if (!w.crew(b).isEmpty() && then.crew(b).isEmpty()) {
          return n;
        }
      }
      then.season(false);
    }
    return -4;
  }

  long falls(int boat, int what) {
    if (!in(boat, 0, 2) || !in(what, 0, 1)) {
      return -1;
    }
    int p = w.faller(boat, w.season + 1);
    return p == -4 || what == 0 ? p : w.saver(boat, p, w.season + 1);
  }

  long keepAshore(int n) {
    if (!in(n, 0, 60)) {
      return -1;
    }
    int least = w.on(n).lostCount();
    long who = -4;
    for (int p = 0; p < w.men.size(); p++) {
      World other = w.again();
      other.men.get(p).boat = 9;
      int lost = other.on(n).lostCount();
      if (w.men.get(p).boat < 9 && lost < least) {
        least = lost;
        who = p;
      }
    }
    return who;
  }

  long calm(int n) {
    if (!in(n, 0, 60)) {
      return -1;
    }
    for (int sea = 0; sea <= 9; sea++) {
      World other = w.again();
      other.sea = sea;
      if (other.on(n).lostCount() == w.lostCount()) {
        return sea;
      }
    }
    return -4;
  }

  long stranger(int p, int what) {
    if (!w.is(p) || !in(what, 0, 1)) {
      return -1;
    }
    if (w.men.get(p).boat < 9) {
      return -3;
    }
    long best = -4;
    for (int b = 2; b >= 0; b--) {
      boolean good = !w.crew(b).isEmpty();
      for (int q : w.crew(b)) {
        good &= w.may(p, q, w.law);
      }
      if (good && (best < 0 || w.crew(b).size() >= w.crew((int) best).size())) {
        best = b;
      }
    }
    return best < 0 || what == 0 ? best : w.crew((int) best).size();
  }

  long hire(int boat, int f, int n) {
    if (!in(boat, 0, 2) || !in(f, 0, 9) || !in(n, 0, 60)) {
      return -1;
    }
    if (w.men.size() == 8) {
      return -4;
    }
    int[] lost = new int[8];
    for (int k = 0; k < 8; k++) {
      World other = w.again();
      Man m = new Man(k, f);
      m.boat = boat;
      other.men.add(m);
      lost[k] = other.on(n).lostCount();
    }
    int least = Arrays.stream(lost).min().getAsInt();
    for (int k = 0; k < 8; k++) {
      if (lost[k] == least) {
        return k;
      }
    }
    return -4;
  }

  long two(int a, int b, int r) {
    if (!w.are(a, b) || !in(r, 0, 9)) {
      return -1;
    }
    boolean[] able = {w.men.get(a).reach() >= r, w.men.get(b).reach() >= r};
    for (int pair : new int[] {0, 1, 10, 11}) {
      int[] choice = {pair / 10, pair % 10};
      boolean stable = true;
      for (int who = 0; who < 2; who++) {
        int[] other = choice.clone();
        other[who] = 1 - choice[who];
        stable &= has(choice, able)[who] >= has(other, able)[who];
      }
      if (stable) {
        return pair;
      }
    }
    return -4;
  }

  private static int[] has(int[] choice, boolean[] able) {
    boolean one = choice[0] == 1 && able[0];
    boolean other = choice[1] == 1 && able[1];
    if (one && other) {
      return new int[] {-1, -1};
    }
    if (one) {
      return new int[] {-2, 0};
    }
    return other ? new int[] {0, -2} : new int[] {-5, -5};
  }

  private static long spared(World from, int p, int n, int t) {
    if (n == 0) {
      return from.men.get(p).lost ? 0 : 1;
    }
    World still = from.again();
    still.season(true);
    return spared(still, p, n - 1, t) + (t - 1) * spared(from.on(1), p, n - 1, t);
  }

  long odds(int p, int n, int t, int part) {
    if (!w.is(p) || !in(n, 0, 7) || !in(t, 2, 20) || !in(part, 0, 1)) {
      return 1000000001L;
    }
    return part(spared(w, p, n, t), BigInteger.valueOf(t).pow(n).longValueExact(), part);
  }

  long whatIs(int d, int p, int what) {
    if (!in(d, 0, 7) || !w.is(p) || !in(what, 0, 1)) {
      return -1;
    }
    if (rowFault(d) != 0) {
      return rowFault(d);
    }
    long bits = 0;
    for (int i = 0; i < (what == 0 ? 8 : 10); i++) {
      World other = w.again();
      Man m = other.men.get(p);
      m.kind = what == 0 ? i : m.kind;
      m.figure = what == 0 ? m.figure : i;
      boolean so = true;
      for (int at = 0; at < shelves[d].cells.length && so; at++) {
        Man then = other.men.get(p);
        long told = shelves[d].cells[at];
        so = told == least(shelves[d].sort) || told == (then.lost ? 8 : then.boat);
        other = other.on(1);
      }
      bits += so ? 1 << i : 0;
    }
    return bits;
  }

  private static long least(int sort) {
    return sort == 0 ? Byte.MIN_VALUE : sort == 1 ? Short.MIN_VALUE : Integer.MIN_VALUE;
  }

  long mean(int part) {
    if (!in(part, 0, 1)) {
      return 1000000001L;
    }
    long sum = 0;
    long n = 0;
    for (Man m : w.men) {
      sum += m.lost ? 0 : m.skill();
      n += m.lost ? 0 : 1;
    }
    return part(sum, n, part);
  }

  long forged(int d) {
    if (rowFault(d) != 0) {
      return rowFault(d);
    }
    long[] cells = shelves[d].cells;
    if (cells.length % 2 == 1) {
      return -13;
    }
    for (int pair = 0; pair < cells.length / 2; pair++) {
      int p = (int) cells[2 * pair];
      int q = (int) cells[2 * pair + 1];
      if (!w.are(p, q) || !w.counts(p, q, w.law)) {
        return pair;
      }
    }
    return -4;
  }

  long judge(int d) {
    if (rowFault(d) != 0) {
      return rowFault(d);
    }
    World then = w;
    for (int i = 0; i < shelves[d].cells.length; i++) {
      long told = shelves[d].cells[i];
      if (told != least(shelves[d].sort) && told != then.lostCount()) {
        return i;
      }
      then = then.on(1);
    }
    return -4;
  }

  long capes(int n, int z, int what) {
    if (!in(n, 1, 20) || !in(what, 0, 1)) {
      return -1;
    }
    int seed = z;
    long lost = 0;
    long aboard = 0;
    for (int i = 0; i < n; i++) {
      World other = w.again();
      for (Man m : other.men) {
        if (!m.lost) {
          seed = seed * 1103515245 + 12345;
          long plain = seed < 0 ? seed + 2147483648L : seed;
          long draw = plain / 65536 % 4;
          m.boat = draw == 3 ? 9 : (int) draw;
        }
      }
      other = other.on(5);
      lost += other.lostCount() - w.lostCount();
      aboard += other.crew(0).size() + other.crew(1).size() + other.crew(2).size();
    }
    return what == 0 ? lost : aboard;
  }

  long image() {
    image = w.again();
    return w.season;
  }

  long restore() {
    if (image == null) {
      return -3;
    }
    w = image.again();
    return w.season;
  }

  long count(int what) {
    long n = 0;
    switch (what) {
      case 0:
        return w.men.size();
      case 1:
        return w.law;
      case 2:
        return w.sea;
      case 3:
        return w.season;
      case 4:
        for (int p = 0; p < w.men.size(); p++) {
          n |= w.men.get(p).lost ? 1 << p : 0;
        }
        return n;
      case 5:
        return bits(w.crew(0)) + bits(w.crew(1)) + bits(w.crew(2));
      case 6:
        for (int p = 0; p < w.men.size(); p++) {
          n += owed(p);
        }
        return n;
      default:
        return -1;
    }
  }

  long keep(int d, int what, int k, int figure) {
    if (!in(d, 0, 7) || !in(what, 0, 1)) {
      return -1;
    }
    if (what == 1 && !(in(k, 0, 7) && in(figure, 0, 9))) {
      return -1;
    }
    Thing t = new Thing();
    t.kind = k;
    t.figure = figure;
    shelves[d] = what == 0 ? null : t;
    return 0;
  }

  long row(int d, int sort, int n) {
    if (!in(d, 0, 7) || !in(sort, 0, 2) || n > 100) {
      return -1;
    }
    if (n < 0) {
      return -14;
    }
    Thing t = new Thing();
    t.sort = sort;
    t.cells = new long[n];
    shelves[d] = t;
    return 0;
  }

  long put(int d, int i, int v) {
    if (rowFault(d) != 0) {
      return rowFault(d);
    }
    if (!in(i, 0, shelves[d].cells.length - 1)) {
      return -13;
    }
    int unused = new int[] {24, 16, 0}[shelves[d].sort];
    shelves[d].cells[i] = v << unused >> unused;
    return 0;
  }

  long element(int d, int i) {
    if (!in(d, 0, 7)) {
      return ILLEGAL_ARGUMENT;
    }
    if (rowFault(d) != 0 || !in(i, 0, shelves[d].cells.length - 1)) {
      return ILLEGAL_STATE;
    }
    return shelves[d].cells[i];
  }

  long copy(int d, int i, int e, int j, int n) {
    if (!in(d, 0, 7) || !in(e, 0, 7)) {
      return -1;
    }
    Thing from = shelves[d];
    Thing to = shelves[e];
    if (from == null || to == null) {
      return -11;
    }
    if (from.cells == null || to.cells == null || from.sort != to.sort) {
      return -12;
    }
    boolean behind = (long) i + n > from.cells.length || (long) j + n > to.cells.length;
    if (n < 0 || i < 0 || j < 0 || behind) {
      return -13;
    }
    long[] taken = Arrays.copyOfRange(from.cells, i, i + n);
    for (int k = 0; k < n; k++) {
      to.cells[j + k] = taken[k];
    }
    return n;
  }

  long cost(int d) {
    return kindFault(d) != 0 ? kindFault(d) : Man.cost(shelves[d].kind, shelves[d].figure);
  }

  long toss(int d) {
    if (kindFault(d) != 0) {
      return kindFault(d);
    }
    int kind = shelves[d].kind;
    int figure = shelves[d].figure;
    if (figure == 0 || kind == 3 || kind == 7) {
      return -15;
    }
    return kind == 4 ? 204 + 2 * figure : kind == 1 ? 100 + figure : figure;
  }
}
