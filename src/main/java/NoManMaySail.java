import java.util.Arrays;

/**
 * No man may sail with one he has saved. The promises that this class keeps stand in DOC.md; the
 * words in capitals are told there.
 */
public final class NoManMaySail {
  private static final int MOST = 8;
  private static final int KINDS = 8;
  private static final int FIGURES = 10;
  private static final int BOATS = 3;
  private static final int ASHORE = 9;
  private static final int TOLD_LOST = 8;
  private static final int SHELVES = 8;
  private static final int LAWS = 4;
  private static final int SEAS = 10;
  private static final int HOWS = 4;
  private static final int LAST_SEASON = 999;
  private static final int FARTHEST = 60;
  private static final int ALL = -1;
  private static final int NO_SIGN = 0x7fffffff;

  private static final int NO_SUCH = -1;
  private static final int NO_ROOM = -2;
  private static final int NOT_SO = -3;
  private static final int NONE = -4;
  private static final int HOLDS_NOTHING = -11;
  private static final int OF_ANOTHER_KIND = -12;
  private static final int NO_PLACE = -13;
  private static final int BELOW_NOTHING = -14;
  private static final int NO_FAILURE = -15;
  private static final int FAULT_OF_SIGNS = -1000;
  private static final int FAULT_OF_SENSE = -2000;
  private static final long LONG_REFUSAL = 1000000000L;

  private final Cape now = new Cape();
  private final Cape image = new Cape();
  private final Cape mind = new Cape();
  private final Crews crews = new Crews();
  private final Shelf[] shelves = new Shelf[SHELVES];
  private boolean imaged;

  public NoManMaySail() {
    for (int d = 0; d < SHELVES; d++) {
      shelves[d] = new Shelf();
    }
  }

  // ---- the cape as told

  public int cape(int d) {
    int refusal = refusal(d, Shelf.A_ROW);
    if (refusal != 0) {
      return refusal;
    }
    Shelf text = shelves[d];
    if (text.sort != Shelf.BYTES) {
      return OF_ANOTHER_KIND;
    }
    int broken = text.brokenAt();
    if (broken >= 0) {
      return FAULT_OF_SIGNS - broken;
    }
    mind.becomes(now);
    int statements = 0;
    int at = 0;
    while (statements < Shelf.LONGEST && at < text.size) {
      if (!mind.obeys(text, at)) {
        return FAULT_OF_SENSE - at;
      }
      at += text.lengthAt(at);
      statements++;
    }
    now.becomes(mind);
    return statements;
  }

  public int sailor(int p, int what) {
    if (!now.has(p)) {
      return NO_SUCH;
    }
    switch (what) {
      case 0:
        return now.kind[p];
      case 1:
        return now.figure[p];
      case 2:
        return now.boat[p];
      case 3:
        return now.isLost(p) ? 1 : 0;
      case 4:
        return now.kindOf(p).skill(now.figure[p]);
      case 5:
        return now.kindOf(p).risk(now.figure[p], now.season);
      case 6:
        return now.kindOf(p).reach(now.figure[p]);
      case 7:
        return now.kindOf(p).pay(now.figure[p]);
      default:
        return NO_SUCH;
    }
  }

  public int saved(int p, int q) {
    return now.hasTwo(p, q) ? now.how[p * MOST + q] : NO_SUCH;
  }

  public int comes(int d) {
    int refusal = refusal(d, Shelf.A_SAILOR);
    return refusal != 0 ? refusal : now.adds(shelves[d].kind, shelves[d].figure);
  }

  public int saves(int p, int q, int v) {
    return now.notes(p, q, v);
  }

  public int boards(int p, int boat) {
    return now.moves(p, boat);
  }

  public int sets(int what, int v) {
    return now.rules(what, v);
  }

  public int seasons(int n) {
    return now.passes(n);
  }

  // ---- who may sail with whom

  public int may(int p, int q) {
    if (!now.hasTwo(p, q)) {
      return NO_SUCH;
    }
    return now.agree(p, q, now.law) ? 1 : 0;
  }

  public int with(int p) {
    return now.has(p) ? now.friends(p) : NO_SUCH;
  }

  public int lawful(int boat) {
    if (!isBoat(boat)) {
      return NO_SUCH;
    }
    crews.lookAt(now, now.law);
    return crews.isPeace(now.crew(boat)) ? 1 : 0;
  }

  public int largest(int what) {
    if (!isPart(what)) {
      return NO_SUCH;
    }
    crews.lookAt(now, now.law);
    int bits = crews.greatest();
    return what == 0 ? bits : Integer.bitCount(bits);
  }

  public int fewestBoats(int p) {
    if (p != ALL && !now.has(p)) {
      return NO_SUCH;
    }
    crews.lookAt(now, now.law);
    int boats = crews.fewest();
    if (p == ALL) {
      return boats;
    }
    return now.isLost(p) ? NONE : crews.seat[p];
  }

  public int manned(int a, int b, int c, int p) {
    boolean counted = within(a, 0, 4) && within(b, 0, 4) && within(c, 0, 4);
    if (!counted || (p != ALL && !now.has(p))) {
      return NO_SUCH;
    }
    crews.lookAt(now, now.law);
    boolean can = crews.canMan(a, b, c);
    if (p == ALL) {
      return can ? 1 : 0;
    }
    return can ? crews.seat[p] : NONE;
  }

  public int bestCrew(int n, int what) {
    if (!within(n, 1, 5) || !isPart(what)) {
      return NO_SUCH;
    }
    crews.lookAt(now, now.law);
    int bits = crews.mostSkilled(now, n);
    return bits < 0 || what == 0 ? bits : now.skillOf(bits);
  }

  public int cheapest(int v, int what) {
    if (!within(v, 0, 60) || !isPart(what)) {
      return NO_SUCH;
    }
    crews.lookAt(now, now.law);
    int bits = crews.leastPaid(now, v);
    return bits < 0 || what == 0 ? bits : now.payOf(bits);
  }

  public int quarrels() {
    int twos = 0;
    for (int p = 0; p < now.size; p++) {
      for (int q = p + 1; q < now.size; q++) {
        if (!now.isLost(p) && !now.isLost(q) && !now.agree(p, q, now.law)) {
          twos++;
        }
      }
    }
    return twos;
  }

  public int strictest(int n) {
    if (!within(n, 1, MOST)) {
      return NO_SUCH;
    }
    for (int law = 0; law < LAWS; law++) {
      crews.lookAt(now, law);
      if (Integer.bitCount(crews.greatest()) >= n) {
        return law;
      }
    }
    return NONE;
  }

  public int freeLaw(int p, int q) {
    if (!now.hasTwo(p, q)) {
      return NO_SUCH;
    }
    int free = 0;
    for (int law = 0; law < LAWS; law++) {
      if (now.agree(p, q, law)) {
        free++;
      }
    }
    return free;
  }

  // ---- who owes whom

  public int owed(int p) {
    return now.has(p) ? Integer.bitCount(now.savedBy(p)) : NO_SUCH;
  }

  public int mostOwed() {
    int who = NONE;
    int most = 0;
    for (int p = 0; p < now.size; p++) {
      int count = Integer.bitCount(now.savedBy(p));
      if (count > most) {
        who = p;
        most = count;
      }
    }
    return who;
  }

  public int owes(int p) {
    return now.has(p) ? now.saversOf(p) : NO_SUCH;
  }

  public int rings(int what) {
    if (!isPart(what)) {
      return NO_SUCH;
    }
    int twos = 0;
    int first = NONE;
    for (int p = 0; p < now.size; p++) {
      for (int q = p + 1; q < now.size; q++) {
        if (now.counts(p, q, now.law) && now.counts(q, p, now.law)) {
          first = twos == 0 ? p * 10 + q : first;
          twos++;
        }
      }
    }
    return what == 0 ? twos : first;
  }

  public int line(int p, int q) {
    if (!now.hasTwo(p, q)) {
      return NO_SUCH;
    }
    int reached = now.savedBy(p);
    // The first link stands; a line of all SAILORS has one fewer than they are.
    for (int link = 2; link < MOST; link++) {
      int farther = reached;
      for (int r = 0; r < now.size; r++) {
        farther |= holds(reached, r) ? now.savedBy(r) : 0;
      }
      reached = farther;
    }
    return holds(reached, q) ? 1 : 0;
  }

  // ---- seasons on

  public int behind(int p, int n) {
    if (!now.has(p) || !within(n, 0, FARTHEST)) {
      return NO_SUCH;
    }
    mind.becomes(now);
    mind.sails(n);
    return mind.isLost(p) ? NONE : mind.boat[p];
  }

  public int lostIn(int n) {
    if (!within(n, 0, FARTHEST)) {
      return NO_SUCH;
    }
    mind.becomes(now);
    mind.sails(n);
    return mind.lostOnes();
  }

  public int unmanned() {
    mind.becomes(now);
    for (int n = 1; n <= FARTHEST; n++) {
      mind.sails(1);
      for (int b = 0; b < BOATS; b++) {
        if (now.crew(b) != 0 && mind.crew(b) == 0) {
          return n;
        }
      }
    }
    return NONE;
  }

  public int falls(int boat, int what) {
    if (!isBoat(boat) || !isPart(what)) {
      return NO_SUCH;
    }
    int p = now.faller(boat, now.season + 1);
    if (p < 0 || what == 0) {
      return p;
    }
    return now.saver(p, now.season + 1);
  }

  public int keepAshore(int n) {
    if (!within(n, 0, FARTHEST)) {
      return NO_SUCH;
    }
    mind.becomes(now);
    mind.sails(n);
    int fewest = mind.lostOnes();
    int who = NONE;
    for (int p = 0; p < now.size; p++) {
      if (isBoat(now.boat[p])) {
        mind.becomes(now);
        mind.boat[p] = ASHORE;
        mind.sails(n);
        if (mind.lostOnes() < fewest) {
          fewest = mind.lostOnes();
          who = p;
        }
      }
    }
    return who;
  }

  public int calm(int n) {
    if (!within(n, 0, FARTHEST)) {
      return NO_SUCH;
    }
    for (int sea = 0; sea < SEAS; sea++) {
      mind.becomes(now);
      mind.sea = sea;
      mind.sails(n);
      if (mind.lost == now.lost) {
        return sea;
      }
    }
    return NONE;
  }

  public int stranger(int p, int what) {
    if (!now.has(p) || !isPart(what)) {
      return NO_SUCH;
    }
    if (now.boat[p] != ASHORE) {
      return NOT_SO;
    }
    int friends = now.friends(p);
    int where = NONE;
    int most = 0;
    for (int b = 0; b < BOATS; b++) {
      int crew = now.crew(b);
      if ((crew & ~friends) == 0 && Integer.bitCount(crew) > most) {
        where = b;
        most = Integer.bitCount(crew);
      }
    }
    return where < 0 || what == 0 ? where : most;
  }

  public int hire(int boat, int f, int n) {
    if (!isBoat(boat) || !within(f, 0, FIGURES - 1) || !within(n, 0, FARTHEST)) {
      return NO_SUCH;
    }
    int best = NONE;
    int fewest = MOST + 1;
    for (int k = 0; k < KINDS; k++) {
      mind.becomes(now);
      int p = mind.adds(k, f);
      if (p < 0) {
        return NONE;
      }
      mind.boat[p] = boat;
      mind.sails(n);
      if (mind.lostOnes() < fewest) {
        best = k;
        fewest = mind.lostOnes();
      }
    }
    return best;
  }

  public int two(int a, int b, int r) {
    if (!now.hasTwo(a, b) || !within(r, 0, 9)) {
      return NO_SUCH;
    }
    boolean one = now.kindOf(a).reach(now.figure[a]) >= r;
    boolean other = now.kindOf(b).reach(now.figure[b]) >= r;
    for (int pair = 0; pair < 4; pair++) {
      boolean x = pair >= 2;
      boolean y = pair % 2 == 1;
      boolean oneStays = gain(x && one, y && other) >= gain(!x && one, y && other);
      boolean otherStays = gain(y && other, x && one) >= gain(!y && other, x && one);
      if (oneStays && otherStays) {
        return (x ? 10 : 0) + (y ? 1 : 0);
      }
    }
    return NONE;
  }

  public long odds(int p, int n, int t, int part) {
    boolean told = within(n, 0, 7) && within(t, 2, 20) && isPart(part);
    if (!told || !now.has(p)) {
      return LONG_REFUSAL - NO_SUCH;
    }
    long above = 0;
    long below = 1;
    for (int i = 0; i < n; i++) {
      below *= t;
    }
    for (int still = 0; still < 1 << n; still++) {
      above += chances(p, n, t, still);
    }
    return inLeastTerms(above, below, part);
  }

  // ---- what he is, told lists

  public int whatIs(int d, int p, int what) {
    if (!now.has(p) || !isPart(what)) {
      return NO_SUCH;
    }
    int refusal = refusal(d, Shelf.A_ROW);
    if (refusal != 0) {
      return refusal;
    }
    int bits = 0;
    for (int i = 0; i < (what == 0 ? KINDS : FIGURES); i++) {
      mind.becomes(now);
      if (what == 0) {
        mind.kind[p] = i;
      } else {
        mind.figure[p] = i;
      }
      if (isWhereTold(shelves[d], p)) {
        bits |= 1 << i;
      }
    }
    return bits;
  }

  public long mean(int part) {
    if (!isPart(part)) {
      return LONG_REFUSAL - NO_SUCH;
    }
    int living = now.living();
    return inLeastTerms(now.skillOf(living), Integer.bitCount(living), part);
  }

  public int forged(int d) {
    int refusal = refusal(d, Shelf.A_ROW);
    if (refusal != 0) {
      return refusal;
    }
    Shelf list = shelves[d];
    if (list.size % 2 != 0) {
      return NO_PLACE;
    }
    for (int i = 0; i + 1 < list.size; i += 2) {
      int p = list.cells[i];
      int q = list.cells[i + 1];
      if (!now.hasTwo(p, q) || !now.counts(p, q, now.law)) {
        return i / 2;
      }
    }
    return NONE;
  }

  public int judge(int d) {
    int refusal = refusal(d, Shelf.A_ROW);
    if (refusal != 0) {
      return refusal;
    }
    Shelf list = shelves[d];
    mind.becomes(now);
    for (int i = 0; i < list.size; i++) {
      if (!list.isSkipped(i) && list.cells[i] != mind.lostOnes()) {
        return i;
      }
      mind.sails(1);
    }
    return NONE;
  }

  public int capes(int n, int z, int what) {
    if (!within(n, 1, 20) || !isPart(what)) {
      return NO_SUCH;
    }
    int seed = z;
    int lost = 0;
    int aboard = 0;
    for (int i = 0; i < n; i++) {
      mind.becomes(now);
      seed = mind.scatters(seed);
      mind.sails(5);
      lost += mind.lostOnes() - now.lostOnes();
      aboard += Integer.bitCount(mind.aboard());
    }
    return what == 0 ? lost : aboard;
  }

  // ---- the image, what is told

  public int image() {
    image.becomes(now);
    imaged = true;
    return now.season;
  }

  public int restore() {
    if (!imaged) {
      return NOT_SO;
    }
    now.becomes(image);
    return now.season;
  }

  public int count(int what) {
    switch (what) {
      case 0:
        return now.size;
      case 1:
        return now.law;
      case 2:
        return now.sea;
      case 3:
        return now.season;
      case 4:
        return now.lost;
      case 5:
        return now.aboard();
      case 6:
        return now.savings();
      default:
        return NO_SUCH;
    }
  }

  // ---- shelves

  public int keep(int d, int what, int k, int figure) {
    if (!isShelf(d) || !within(what, 0, 1)) {
      return NO_SUCH;
    }
    if (what == 0) {
      shelves[d].held = Shelf.NOTHING;
      return 0;
    }
    if (!isKind(k) || !within(figure, 0, FIGURES - 1)) {
      return NO_SUCH;
    }
    shelves[d].held = Shelf.A_SAILOR;
    shelves[d].kind = k;
    shelves[d].figure = figure;
    return 0;
  }

  public int row(int d, int sort, int n) {
    if (!isShelf(d) || !within(sort, Shelf.BYTES, Shelf.INTS) || n > Shelf.LONGEST) {
      return NO_SUCH;
    }
    if (n < 0) {
      return BELOW_NOTHING;
    }
    shelves[d].getsRow(sort, n);
    return 0;
  }

  public int put(int d, int i, int v) {
    int refusal = refusal(d, Shelf.A_ROW);
    if (refusal != 0) {
      return refusal;
    }
    if (!within(i, 0, shelves[d].size - 1)) {
      return NO_PLACE;
    }
    shelves[d].cells[i] = shelves[d].lowest(v);
    return 0;
  }

  public long element(int d, int i) throws IllegalArgumentException, IllegalStateException {
    if (!isShelf(d)) {
      throw new IllegalArgumentException("no such shelf");
    }
    if (refusal(d, Shelf.A_ROW) != 0) {
      throw new IllegalStateException("no row");
    }
    if (!within(i, 0, shelves[d].size - 1)) {
      throw new IllegalStateException("no such place");
    }
    return shelves[d].cells[i];
  }

  public int copy(int d, int i, int e, int j, int n) {
    if (!isShelf(d) || !isShelf(e)) {
      return NO_SUCH;
    }
    Shelf from = shelves[d];
    Shelf to = shelves[e];
    if (from.held == Shelf.NOTHING || to.held == Shelf.NOTHING) {
      return HOLDS_NOTHING;
    }
    if (from.held != Shelf.A_ROW || to.held != Shelf.A_ROW || from.sort != to.sort) {
      return OF_ANOTHER_KIND;
    }
    if (!from.hasPlaces(i, n) || !to.hasPlaces(j, n)) {
      return NO_PLACE;
    }
    System.arraycopy(from.cells, i, to.cells, j, n);
    return n;
  }

  public int cost(int d) {
    int refusal = refusal(d, Shelf.A_SAILOR);
    if (refusal != 0) {
      return refusal;
    }
    return now.kinds[shelves[d].kind].price(shelves[d].figure);
  }

  public int toss(int d) {
    int refusal = refusal(d, Shelf.A_SAILOR);
    if (refusal != 0) {
      return refusal;
    }
    int figure = shelves[d].figure;
    if (figure == 0) {
      return NO_FAILURE;
    }
    Sailor one = now.kinds[shelves[d].kind];
    try {
      one.fail();
    } catch (UnsupportedOperationException master) {
      return 200 + one.price(figure);
    } catch (IllegalStateException bosun) {
      return 100 + figure;
    } catch (IllegalArgumentException other) {
      return figure;
    }
    return NO_FAILURE;
  }

  // ---- what the calls share

  private static boolean within(int v, int least, int most) {
    return v >= least && v <= most;
  }

  private static boolean isShelf(int d) {
    return within(d, 0, SHELVES - 1);
  }

  /** The REFUSAL of a call that wants a SAILOR or a ROW on a SHELF; 0, if it is there. */
  private int refusal(int d, int wanted) {
    if (!isShelf(d)) {
      return NO_SUCH;
    }
    if (shelves[d].held == Shelf.NOTHING) {
      return HOLDS_NOTHING;
    }
    return shelves[d].held == wanted ? 0 : OF_ANOTHER_KIND;
  }

  private static boolean isBoat(int boat) {
    return within(boat, 0, BOATS - 1);
  }

  private static boolean isKind(int k) {
    return within(k, 0, KINDS - 1);
  }

  private static boolean isPart(int what) {
    return within(what, 0, 1);
  }

  private static boolean holds(int bits, int p) {
    return (bits >> p & 1) != 0;
  }

  /** What one of TWO has, by whether he himself and the other one save. */
  private static int gain(boolean self, boolean other) {
    if (self) {
      return other ? -1 : -2;
    }
    return other ? 0 : -5;
  }

  /** Of t to the n cases, how many go by these still SEASONS (bits) and leave one not LOST. */
  private long chances(int p, int n, int t, int still) {
    long cases = 1;
    mind.becomes(now);
    for (int i = 0; i < n; i++) {
      if (holds(still, i)) {
        mind.season++;
      } else {
        mind.sails(1);
        cases *= t - 1;
      }
    }
    return mind.isLost(p) ? 0 : cases;
  }

  /** Whether one in mind is where a ROW tells, SEASON by SEASON; the mind sails on meanwhile. */
  private boolean isWhereTold(Shelf list, int p) {
    for (int i = 0; i < list.size; i++) {
      int where = mind.isLost(p) ? TOLD_LOST : mind.boat[p];
      if (!list.isSkipped(i) && list.cells[i] != where) {
        return false;
      }
      mind.sails(1);
    }
    return true;
  }

  /** Part 0 above, 1 below the line; nothing by nothing is 0 by 1. */
  private static long inLeastTerms(long above, long below, int part) {
    long divisor = above;
    long rest = below;
    // Euclid's steps of two ints are fewer than fifty.
    for (int i = 0; i < 100 && rest != 0; i++) {
      long next = divisor % rest;
      divisor = rest;
      rest = next;
    }
    if (divisor == 0) {
      return part == 0 ? 0 : 1;
    }
    return (part == 0 ? above : below) / divisor;
  }

  /** A KIND, told by what it makes of a FIGURE; it holds nothing itself. */
  private static class Sailor {
    int skill(int figure) {
      return figure;
    }

    int risk(int figure, int season) {
      return figure % 5;
    }

    int reach(int figure) {
      return 3 + figure / 3;
    }

    int pay(int figure) {
      return 2;
    }

    int price(int figure) {
      return 2;
    }

    boolean isGhost() {
      return false;
    }

    /** Throws the FAILURE, if the KIND has one; its class tells whose it is. */
    void fail() {
      throw new IllegalArgumentException("a sailor fails");
    }
  }

  private static class Bosun extends Sailor {
    int skill(int figure) {
      return super.skill(figure) + 3;
    }

    int risk(int figure, int season) {
      return 0;
    }

    int reach(int figure) {
      return super.reach(figure) + 3;
    }

    int pay(int figure) {
      return super.pay(figure) + figure;
    }

    int price(int figure) {
      return super.price(figure) + figure;
    }

    void fail() {
      throw new IllegalStateException("a bosun fails");
    }
  }

  private static final class Master extends Bosun {
    int skill(int figure) {
      return super.skill(figure) * 2;
    }

    int risk(int figure, int season) {
      return 1;
    }

    int reach(int figure) {
      return super.reach(figure) - 1;
    }

    int pay(int figure) {
      return super.pay(figure) * 2;
    }

    int price(int figure) {
      return super.price(figure) * 2;
    }

    void fail() {
      throw new UnsupportedOperationException("a master fails");
    }
  }

  private static class Boy extends Sailor {
    int skill(int figure) {
      return super.skill(figure) / 2;
    }

    int risk(int figure, int season) {
      return super.risk(figure, season) + 4;
    }

    int reach(int figure) {
      return 1;
    }

    int pay(int figure) {
      return 1;
    }

    int price(int figure) {
      return 1;
    }
  }

  private static final class Brother extends Boy {
    int skill(int figure) {
      return super.skill(figure) + 1;
    }

    int risk(int figure, int season) {
      return super.risk(figure, season) - (season & 1);
    }

    int reach(int figure) {
      return super.reach(figure) * 2;
    }

    int price(int figure) {
      return super.price(figure) + 3;
    }
  }

  private static class Ghost extends Sailor {
    int skill(int figure) {
      return 0;
    }

    int risk(int figure, int season) {
      return 0;
    }

    int reach(int figure) {
      return 0;
    }

    int pay(int figure) {
      return 0;
    }

    int price(int figure) {
      return 9;
    }

    boolean isGhost() {
      return true;
    }

    void fail() {
    }
  }

  private static final class Tiller extends Ghost {
    int skill(int figure) {
      return 9;
    }

    int reach(int figure) {
      return 9;
    }

    int price(int figure) {
      return super.price(figure) / 2;
    }
  }

  private static final class Stranger extends Sailor {
    int risk(int figure, int season) {
      return (figure + season) % 10;
    }

    int pay(int figure) {
      return super.pay(figure) + 1;
    }

    int price(int figure) {
      return super.price(figure) + 4;
    }
  }

  /** All that there is but SHELVES and THE IMAGE. Who is LOST is ASHORE, always. */
  private static final class Cape {
    private final Sailor[] kinds = {
      new Sailor(), new Bosun(), new Boy(), new Ghost(),
      new Master(), new Brother(), new Stranger(), new Tiller()
    };
    private final int[] kind = new int[MOST];
    private final int[] figure = new int[MOST];
    private final int[] boat = new int[MOST];
    private final int[] how = new int[MOST * MOST];
    private int size;
    private int lost;
    private int law = 2;
    private int sea = 5;
    private int season;

    private void becomes(Cape other) {
      System.arraycopy(other.kind, 0, kind, 0, MOST);
      System.arraycopy(other.figure, 0, figure, 0, MOST);
      System.arraycopy(other.boat, 0, boat, 0, MOST);
      System.arraycopy(other.how, 0, how, 0, MOST * MOST);
      size = other.size;
      lost = other.lost;
      law = other.law;
      sea = other.sea;
      season = other.season;
    }

    private boolean has(int p) {
      return p >= 0 && p < size;
    }

    private boolean hasTwo(int p, int q) {
      return has(p) && has(q) && p != q;
    }

    private Sailor kindOf(int p) {
      return kinds[kind[p]];
    }

    private boolean isLost(int p) {
      return holds(lost, p);
    }

    private int lostOnes() {
      return Integer.bitCount(lost);
    }

    private int living() {
      return (1 << size) - 1 & ~lost;
    }

    private int crew(int b) {
      int bits = 0;
      for (int p = 0; p < size; p++) {
        bits |= boat[p] == b ? 1 << p : 0;
      }
      return bits;
    }

    private int aboard() {
      int bits = 0;
      for (int b = 0; b < BOATS; b++) {
        bits |= crew(b);
      }
      return bits;
    }

    private boolean counts(int p, int q, int byLaw) {
      int done = how[p * MOST + q];
      return done > 0 && done >= byLaw;
    }

    private boolean agree(int p, int q, int byLaw) {
      if (kindOf(p).isGhost() || kindOf(q).isGhost()) {
        return true;
      }
      return !counts(p, q, byLaw) && !counts(q, p, byLaw);
    }

    private int friends(int p) {
      int bits = 0;
      for (int q = 0; q < size; q++) {
        if (q != p && !isLost(q) && agree(p, q, law)) {
          bits |= 1 << q;
        }
      }
      return bits;
    }

    private int savedBy(int p) {
      int bits = 0;
      for (int q = 0; q < size; q++) {
        bits |= counts(p, q, law) ? 1 << q : 0;
      }
      return bits;
    }

    private int saversOf(int p) {
      int bits = 0;
      for (int q = 0; q < size; q++) {
        bits |= counts(q, p, law) ? 1 << q : 0;
      }
      return bits;
    }

    private int savings() {
      int all = 0;
      for (int p = 0; p < size; p++) {
        all += Integer.bitCount(savedBy(p));
      }
      return all;
    }

    private int skillOf(int bits) {
      int all = 0;
      for (int p = 0; p < size; p++) {
        all += holds(bits, p) ? kindOf(p).skill(figure[p]) : 0;
      }
      return all;
    }

    private int payOf(int bits) {
      int all = 0;
      for (int p = 0; p < size; p++) {
        all += holds(bits, p) ? kindOf(p).pay(figure[p]) : 0;
      }
      return all;
    }

    private int adds(int k, int f) {
      if (!isKind(k) || !within(f, 0, FIGURES - 1)) {
        return NO_SUCH;
      }
      if (size >= MOST) {
        return NO_ROOM;
      }
      kind[size] = k;
      figure[size] = f;
      boat[size] = ASHORE;
      size++;
      return size - 1;
    }

    private int notes(int p, int q, int v) {
      if (!hasTwo(p, q) || !within(v, 0, HOWS - 1)) {
        return NO_SUCH;
      }
      int was = how[p * MOST + q];
      how[p * MOST + q] = v;
      return was;
    }

    private int moves(int p, int where) {
      if (!has(p) || (!isBoat(where) && where != ASHORE)) {
        return NO_SUCH;
      }
      if (isLost(p)) {
        return NOT_SO;
      }
      int was = boat[p];
      boat[p] = where;
      return was;
    }

    /** THE TEXT bars a LOST one from BOATS alone: that he is ASHORE is so already. */
    private boolean comesTo(int p, int where) {
      boolean already = has(p) && isLost(p) && where == ASHORE;
      return already || moves(p, where) >= 0;
    }

    private int rules(int what, int v) {
      if (what == 0 && within(v, 0, LAWS - 1)) {
        int was = law;
        law = v;
        return was;
      }
      if (what == 1 && within(v, 0, SEAS - 1)) {
        int was = sea;
        sea = v;
        return was;
      }
      return NO_SUCH;
    }

    private int passes(int n) {
      if (!within(n, 1, FARTHEST)) {
        return NO_SUCH;
      }
      if (season + n > LAST_SEASON) {
        return NOT_SO;
      }
      sails(n);
      return lostOnes();
    }

    /** Does the STATEMENT at a place of a whole text; false, if it can't be done. */
    private boolean obeys(Shelf text, int at) {
      int a = text.digit(at + 1);
      int b = text.digit(at + 2);
      switch (text.cells[at]) {
        case 'p':
          return adds(a, b) >= 0;
        case 's':
          return notes(a, b, text.digit(at + 3)) >= 0;
        case 'b':
          return comesTo(a, b);
        case 'l':
          return rules(0, a) >= 0;
        case 'w':
          return rules(1, a) >= 0;
        case 'n':
          return passes(a * 10 + b) >= 0;
        default:
          return false;
      }
    }

    /** Goes n SEASONS on, whatever SEASON is then. */
    private void sails(int n) {
      for (int i = 0; i < n; i++) {
        season++;
        for (int b = 0; b < BOATS; b++) {
          int p = faller(b, season);
          if (p >= 0) {
            goesOverboard(p, saver(p, season));
          }
        }
      }
    }

    private int faller(int b, int when) {
      int who = NONE;
      int most = 0;
      for (int p = 0; p < size; p++) {
        if (boat[p] == b) {
          int risk = kindOf(p).risk(figure[p], when);
          if (risk > most) {
            who = p;
            most = risk;
          }
        }
      }
      return most >= sea ? who : NONE;
    }

    private int saver(int p, int when) {
      int who = NONE;
      // Whose REACH is less than RISK saves nobody, be it the most there is.
      int most = kindOf(p).risk(figure[p], when) - 1;
      for (int q = 0; q < size; q++) {
        if (q != p && boat[q] == boat[p]) {
          int reach = kindOf(q).reach(figure[q]);
          if (reach > most) {
            who = q;
            most = reach;
          }
        }
      }
      return who;
    }

    private void goesOverboard(int p, int by) {
      if (by < 0) {
        lost |= 1 << p;
        boat[p] = ASHORE;
        return;
      }
      int over = kindOf(by).reach(figure[by]) - kindOf(p).risk(figure[p], season);
      how[by * MOST + p] = over >= 3 ? 3 : over >= 1 ? 2 : 1;
      if (!agree(by, p, law)) {
        boat[by] = ASHORE;
      }
    }

    /** Each who is not LOST goes where a DRAW tells; the seed behind all DRAWS. */
    private int scatters(int seed) {
      int z = seed;
      for (int p = 0; p < size; p++) {
        if (!isLost(p)) {
          z = z * 1103515245 + 12345;
          int draw = (z & NO_SIGN) / 65536 % (BOATS + 1);
          boat[p] = draw < BOATS ? draw : ASHORE;
        }
      }
      return z;
    }
  }

  /** Looks for crews among those of a CAPE who are not LOST, by a LAW. */
  private static final class Crews {
    private final int[] foes = new int[MOST];
    private final int[] seat = new int[MOST];
    private final int[] taken = new int[MOST];
    private final int[] room = new int[MOST];
    private int size;
    private int living;
    private int boats;
    private int idle;
    private boolean alike;

    private void lookAt(Cape cape, int law) {
      size = cape.size;
      living = cape.living();
      for (int p = 0; p < size; p++) {
        foes[p] = 0;
        for (int q = 0; q < size; q++) {
          if (q != p && !cape.agree(p, q, law)) {
            foes[p] |= 1 << q;
          }
        }
      }
    }

    private boolean isPeace(int bits) {
      for (int p = 0; p < size; p++) {
        if (holds(bits, p) && (foes[p] & bits) != 0) {
          return false;
        }
      }
      return true;
    }

    private boolean isCrew(int bits) {
      return (bits & ~living) == 0 && isPeace(bits);
    }

    private int greatest() {
      int best = 0;
      for (int bits = 1; bits < 1 << size; bits++) {
        if (Integer.bitCount(bits) > Integer.bitCount(best) && isCrew(bits)) {
          best = bits;
        }
      }
      return best;
    }

    private int mostSkilled(Cape cape, int n) {
      int best = NONE;
      int most = -1;
      for (int bits = 0; bits < 1 << size; bits++) {
        if (Integer.bitCount(bits) == n && isCrew(bits) && cape.skillOf(bits) > most) {
          best = bits;
          most = cape.skillOf(bits);
        }
      }
      return best;
    }

    private int leastPaid(Cape cape, int skill) {
      int best = NONE;
      int least = NO_SIGN;
      for (int bits = 0; bits < 1 << size; bits++) {
        if (isCrew(bits) && cape.skillOf(bits) >= skill && cape.payOf(bits) < least) {
          best = bits;
          least = cape.payOf(bits);
        }
      }
      return best;
    }

    private int fewest() {
      Arrays.fill(room, MOST);
      idle = 0;
      alike = true;
      for (int many = 0; many <= MOST; many++) {
        boats = many;
        Arrays.fill(taken, 0);
        if (seats(this, 0)) {
          return many;
        }
      }
      return NONE;
    }

    private boolean canMan(int a, int b, int c) {
      Arrays.fill(taken, 0);
      room[0] = a;
      room[1] = b;
      room[2] = c;
      boats = BOATS;
      alike = false;
      // With just as many left over, all rooms are full when all are placed.
      idle = Integer.bitCount(living) - a - b - c;
      return idle >= 0 && seats(this, 0);
    }

    /** Finds seats for all from p on, the first way by SAILORS; p is the depth, 8 at most. */
    private static boolean seats(Crews crews, int p) {
      if (p >= crews.size) {
        return true;
      }
      if (!holds(crews.living, p)) {
        crews.seat[p] = ASHORE;
        return seats(crews, p + 1);
      }
      for (int b = 0; b < crews.boats; b++) {
        boolean empty = crews.taken[b] == 0;
        if (crews.room[b] > 0 && (crews.taken[b] & crews.foes[p]) == 0) {
          crews.enters(b, p, 1);
          if (seats(crews, p + 1)) {
            return true;
          }
          crews.enters(b, p, -1);
        }
        // What fails in one empty boat fails in all that are like it.
        if (empty && crews.alike) {
          return false;
        }
      }
      if (crews.idle > 0) {
        crews.seat[p] = ASHORE;
        crews.idle--;
        if (seats(crews, p + 1)) {
          return true;
        }
        crews.idle++;
      }
      return false;
    }

    /** One enters a boat (1), or leaves it again (-1). */
    private void enters(int b, int p, int step) {
      seat[p] = b;
      taken[b] ^= 1 << p;
      room[b] -= step;
    }
  }

  /** Holds nothing, a KIND of SAILOR or a ROW, whose elements are kept as ints. */
  private static final class Shelf {
    private static final int NOTHING = 0;
    private static final int A_SAILOR = 1;
    private static final int A_ROW = 2;
    private static final int BYTES = 0;
    private static final int SHORTS = 1;
    private static final int INTS = 2;
    private static final int LONGEST = 100;

    private final int[] cells = new int[LONGEST];
    private int held;
    private int kind;
    private int figure;
    private int sort;
    private int size;

    private void getsRow(int newSort, int n) {
      held = A_ROW;
      sort = newSort;
      size = n;
      Arrays.fill(cells, 0);
    }

    private int lowest(int v) {
      switch (sort) {
        case BYTES:
          return (byte) v;
        case SHORTS:
          return (short) v;
        default:
          return v;
      }
    }

    private boolean isSkipped(int i) {
      switch (sort) {
        case BYTES:
          return cells[i] == -128;
        case SHORTS:
          return cells[i] == -32768;
        default:
          return cells[i] == -2147483648;
      }
    }

    private boolean hasPlaces(int i, int n) {
      return n >= 0 && n <= size && i >= 0 && i <= size - n;
    }

    /** The digit at a place, -1 if none is there. */
    private int digit(int i) {
      if (i < 0 || i >= size || cells[i] < '0' || cells[i] > '9') {
        return -1;
      }
      return cells[i] - '0';
    }

    /** How many digits a letter wants behind it; 0, if no STATEMENT begins with it. */
    private static int digitsBehind(int letter) {
      switch (letter) {
        case 'l':
        case 'w':
          return 1;
        case 'p':
        case 'b':
        case 'n':
          return 2;
        case 's':
          return 3;
        default:
          return 0;
      }
    }

    /** How long a STATEMENT is by its letter, ";" too. */
    private int lengthAt(int at) {
      return digitsBehind(cells[at]) + 2;
    }

    /** The place of the first byte with which no CAPE can go on; -1, if the text is whole. */
    private int brokenAt() {
      if (size == 0) {
        return 0;
      }
      int at = 0;
      for (int i = 0; i < LONGEST && at < size; i++) {
        int digits = digitsBehind(cells[at]);
        if (digits == 0) {
          return at;
        }
        for (int j = 1; j <= digits; j++) {
          if (digit(at + j) < 0) {
            return at + j;
          }
        }
        int last = at + digits + 1;
        if (last >= size || cells[last] != ';') {
          return last;
        }
        at = last + 1;
      }
      return -1;
    }
  }
}
