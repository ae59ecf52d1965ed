/** Promises 36 to 43: what he is, told lists, the image, what is told. */
final class ToldLists {
  private static final int LEAST = Integer.MIN_VALUE;
  private static final int MOST = Integer.MAX_VALUE;
  private static final int[] LEASTS = {-128, -32768, LEAST};
  private final Check check;

  ToldLists(Check check) {
    this.check = check;
  }

  void all() {
    whatIs();
    whatIsSkips();
    mean();
    forged();
    judge();
    capes();
    image();
    count();
  }

  private void due(String call, long got, long want) {
    check.due(call, got, want);
  }

  // Promise 36
  private void whatIs() {
    // A SAILOR of FIGURE 4 alone, SEA 4. Of FIGURE 4 those LOST in SEASON 1: 0, 2, 5, 6.
    NoManMaySail x = Ships.ship("p04;p24;w4;b00;");
    for (int sort = 0; sort < 3; sort++) {
      Ships.row(x, sort, sort, 0, 8);
      due("whatIs of LOST, KINDS", x.whatIs(sort, 0, 0), 1 + 4 + 32 + 64);
      due("whatIs of LOST, FIGURES", x.whatIs(sort, 0, 1), 16 + 512);
      Ships.row(x, sort, sort, 0, 0);
      due("whatIs of not LOST, KINDS", x.whatIs(sort, 0, 0), 255 - 101);
      due("whatIs of not LOST, FIGURES", x.whatIs(sort, 0, 1), 1023 - 528);
    }
    Ships.row(x, 0, 0);
    due("whatIs of nothing told, KINDS", x.whatIs(0, 0, 0), 255);
    due("whatIs of nothing told, FIGURES", x.whatIs(0, 0, 1), 1023);
    Ships.row(x, 0, 0, 9);
    due("whatIs of a false place, KINDS", x.whatIs(0, 0, 0), 0);
    due("whatIs of a false place, FIGURES", x.whatIs(0, 0, 1), 0);
    due("whatIs ASHORE, KINDS", x.whatIs(0, 1, 0), 255);
    due("whatIs ASHORE, FIGURES", x.whatIs(0, 1, 1), 1023);
    Ships.row(x, 0, 0, -4);
    due("whatIs of no place", x.whatIs(0, 1, 0), 0);
    int[] far = new int[100];
    java.util.Arrays.fill(far, 9);
    Ships.row(x, 0, 2, far);
    due("whatIs of 100 places", x.whatIs(0, 1, 0), 255);
    far[99] = 8;
    Ships.row(x, 0, 2, far);
    due("whatIs of 100 places, the last one false", x.whatIs(0, 1, 0), 0);
    // By SEA 9 a STRANGER is LOST in SEASON 4, if he has FIGURE 5.
    NoManMaySail fourth = Ships.ship("p65;b00;w9;");
    Ships.row(fourth, 0, 0, 0, 0, 0, 0, 8);
    due("whatIs of LOST in SEASON 4", fourth.whatIs(0, 0, 1), 32);
    due("whatIs of LOST in SEASON 4, KINDS", fourth.whatIs(0, 0, 0), 64);
    // The BOSUN goes ASHORE for the BOY's sake: whoever REACHES 5 and is no GHOST.
    NoManMaySail y = Ships.ship("p21;p10;b00;b10;");
    Ships.row(y, 0, 0, 0, 9);
    due("whatIs of who saved, KINDS", y.whatIs(0, 1, 0), 2);
    due("whatIs of who saved, FIGURES", y.whatIs(0, 1, 1), 1023);
    Ships.row(y, 0, 0, 0, 8, 8);
    y.seasons(2);
    due("whatIs of who is LOST", y.whatIs(0, 0, 0), 0);
    y.put(0, 0, 8);
    due("whatIs of who is LOST now", y.whatIs(0, 0, 0), 255);
    due("whatIs leaves KIND", y.sailor(0, 0), 2);
  }

  private void whatIsSkips() {
    NoManMaySail x = Ships.ship("p04;w4;b00;");
    for (int sort = 0; sort < 3; sort++) {
      Ships.row(x, 0, sort, LEASTS[sort], 8);
      due("whatIs skips the first, sort " + sort, x.whatIs(0, 0, 0), 101);
      Ships.row(x, 0, sort, 0, LEASTS[sort], 8);
      // Behind two SEASONS a BROTHER of FIGURE 4 is LOST already, a MASTER's RISK is 1 yet.
      due("whatIs skips the second, sort " + sort, x.whatIs(0, 0, 0), 101);
    }
    Ships.row(x, 0, 1, -128, 8);
    due("whatIs does not skip -128 of shorts", x.whatIs(0, 0, 0), 0);
    Ships.row(x, 0, 2, -32768, 8);
    due("whatIs does not skip -32768 of ints", x.whatIs(0, 0, 0), 0);
    x.keep(1, 1, 0, 0);
    for (int bad : new int[] {-1, 2, LEAST, MOST}) {
      due("whatIs(0, 0, " + bad + ")", x.whatIs(0, 0, bad), -1);
      due("whatIs(2, 0, " + bad + ") of nothing", x.whatIs(2, 0, bad), -1);
    }
    for (int bad : new int[] {-1, 1, 8, LEAST, MOST}) {
      due("whatIs(0, " + bad + ", 0)", x.whatIs(0, bad, 0), -1);
      due("whatIs(2, " + bad + ", 0) of nothing", x.whatIs(2, bad, 0), -1);
    }
    for (int bad : new int[] {-1, 8, LEAST, MOST}) {
      due("whatIs(" + bad + ", 0, 0)", x.whatIs(bad, 0, 0), -1);
    }
    due("whatIs of nothing", x.whatIs(2, 0, 0), -11);
    due("whatIs of a KIND", x.whatIs(1, 0, 0), -12);
  }

  // Promise 37
  private void mean() {
    mean("all KINDS", Ships.ship(Ships.ALL_KINDS), 49, 8);
    mean("two", Ships.ship("p04;p13;"), 5, 1);
    mean("three", Ships.ship("p04;p13;p30;"), 10, 3);
    mean("four", Ships.ship("p04;p13;p30;p30;"), 5, 2);
    mean("GHOSTS", Ships.ship("p30;p39;"), 0, 1);
    mean("nobody", new NoManMaySail(), 0, 1);
    mean("a LOST one", Ships.ship("p24;b00;n01;"), 0, 1);
    mean("one beside a LOST one", Ships.ship("p24;p07;b00;n01;"), 7, 1);
    for (int bad : new int[] {-1, 2, LEAST, MOST}) {
      due("mean(" + bad + ")", new NoManMaySail().mean(bad), 1000000001L);
    }
  }

  private void mean(String whose, NoManMaySail x, long above, long below) {
    due("mean of " + whose + ", above", x.mean(0), above);
    due("mean of " + whose + ", below", x.mean(1), below);
  }

  // Promise 38
  private void forged() {
    NoManMaySail x = Ships.ship("p00;p30;p00;s012;s123;s201;");
    for (int sort = 0; sort < 3; sort++) {
      Ships.row(x, sort, sort, 0, 1, 1, 2, 0, 1);
      due("forged of none", x.forged(sort), -4);
      Ships.row(x, sort, sort, 0, 1, 1, 2, 2, 0);
      due("forged of one that does not count", x.forged(sort), 2);
      Ships.row(x, sort, sort, 0, 1, 2, 1, 2, 0);
      due("forged the other way", x.forged(sort), 1);
      Ships.row(x, sort, sort, LEASTS[sort], 1, 0, 1);
      due("forged, nothing skipped", x.forged(sort), 0);
    }
    int[][] wrong = {{0, 1, 3, 0}, {0, 1, 0, 3}, {0, 1, 1, 1}, {0, 1, -1, 0}, {0, 1, 0, -1}, {0, 1, 0, 8}};
    for (int[] cells : wrong) {
      Ships.row(x, 0, 0, cells);
      due("forged of " + cells[2] + " and " + cells[3], x.forged(0), 1);
    }
    x.sets(0, 1);
    Ships.row(x, 0, 0, 2, 0);
    due("forged by LAW 1", x.forged(0), -4);
    Ships.row(x, 0, 0);
    due("forged of no pair", x.forged(0), -4);
    Ships.row(x, 0, 0, 0);
    due("forged of half a pair", x.forged(0), -13);
    Ships.row(x, 0, 0, 5, 5, 0);
    due("forged of a pair and a half", x.forged(0), -13);
    x.keep(1, 1, 0, 0);
    due("forged(-1)", x.forged(-1), -1);
    due("forged(8)", x.forged(8), -1);
    due("forged of nothing", x.forged(5), -11);
    due("forged of a KIND", x.forged(1), -12);
  }

  // Promise 39
  private void judge() {
    NoManMaySail x = Ships.ship("p24;p24;p24;b00;b10;b21;");
    for (int sort = 0; sort < 3; sort++) {
      Ships.row(x, sort, sort, 0, 2, 3, 3);
      due("judge of what is so", x.judge(sort), -4);
      x.put(sort, 2, 2);
      due("judge of the third", x.judge(sort), 2);
      x.put(sort, 2, LEASTS[sort]);
      due("judge skips", x.judge(sort), -4);
      x.put(sort, 0, 1);
      due("judge of the first", x.judge(sort), 0);
      x.put(sort, 0, LEASTS[sort]);
      due("judge skips the first", x.judge(sort), -4);
      Ships.row(x, sort, sort);
      due("judge of nothing told", x.judge(sort), -4);
    }
    Ships.row(x, 0, 1, -128);
    due("judge does not skip -128 of shorts", x.judge(0), 0);
    int[] far = new int[100];
    Ships.row(x, 0, 0, far);
    due("judge of the second", x.judge(0), 1);
    NoManMaySail y = new NoManMaySail();
    Ships.row(y, 0, 0, far);
    due("judge of 100", y.judge(0), -4);
    y.put(0, 99, 1);
    due("judge of the last of 100", y.judge(0), 99);
    x.seasons(1);
    Ships.row(x, 0, 0, 2, 3);
    due("judge from now on", x.judge(0), -4);
    x.keep(1, 1, 0, 0);
    due("judge(-1)", x.judge(-1), -1);
    due("judge(8)", x.judge(8), -1);
    due("judge of nothing", x.judge(5), -11);
    due("judge of a KIND", x.judge(1), -12);
  }

  // Promise 40
  private void capes() {
    // The DRAWS below 4 from seed 1 on: 2, 2, 1, 3, 3, 3, 2, 3, 0, 2.
    NoManMaySail ghosts = Ships.ship("p30;p30;p30;p30;");
    due("capes(1, 1, 1) of GHOSTS", ghosts.capes(1, 1, 1), 3);
    due("capes(2, 1, 1) of GHOSTS", ghosts.capes(2, 1, 1), 4);
    due("capes(2, 1, 0) of GHOSTS", ghosts.capes(2, 1, 0), 0);
    NoManMaySail boys = Ships.ship("p24;p24;p24;p24;");
    due("capes(1, 1, 0) of BOYS", boys.capes(1, 1, 0), 3);
    due("capes(1, 1, 1) of BOYS", boys.capes(1, 1, 1), 0);
    due("capes(2, 1, 0) of BOYS", boys.capes(2, 1, 0), 4);
    NoManMaySail one = Ships.ship("p30;");
    due("capes(1, -1, 1)", one.capes(1, -1, 1), 1);
    due("capes(10, 1, 1)", one.capes(10, 1, 1), 6);
    // LOST ones draw nothing and are no more LOST.
    NoManMaySail lost = Ships.ship("p24;b00;n01;p30;p30;b12;");
    due("capes(4, 1, 1) beside a LOST one", lost.capes(4, 1, 1), 2 + 1 + 0 + 1);
    due("capes(4, 1, 0) beside a LOST one", lost.capes(4, 1, 0), 0);
    // Five SEASONS, not four: a STRANGER of FIGURE 4 has RISK 9 first in SEASON 5.
    due("capes: five SEASONS", Ships.ship("p64;w9;").capes(1, 1, 0), 1);
    due("capes: no sixth SEASON", Ships.ship("p63;w9;").capes(1, 1, 0), 0);
    due("capes of nobody", new NoManMaySail().capes(20, 5, 1), 0);
    for (int bad : new int[] {-1, 0, 21, LEAST, MOST}) {
      due("capes(" + bad + ", 1, 0)", one.capes(bad, 1, 0), -1);
    }
    for (int bad : new int[] {-1, 2, LEAST, MOST}) {
      due("capes(1, 1, " + bad + ")", one.capes(1, 1, bad), -1);
    }
  }

  // Promises 41 and 42
  private void image() {
    NoManMaySail x = Ships.ship("p24;p19;p30;s012;b00;b10;b21;l1;w4;n03;");
    String then = Ships.seen(x);
    due("image", x.image(), 3);
    x.seasons(5);
    Ships.cape(x, "p44;s203;b21;l3;w9;");
    x.boards(2, 9);
    due("restore", x.restore(), 3);
    Ships.tell(x, 7, "p24;p19;p30;s012;b00;b10;b21;l1;w4;n03;");
    check.holds("restored all is as it was", then.equals(Ships.seen(x)));
    x.seasons(2);
    due("restore again", x.restore(), 3);
    check.holds("restored again all is as it was", then.equals(Ships.seen(x)));
    x.seasons(1);
    due("image anew", x.image(), 4);
    x.seasons(1);
    due("restore anew", x.restore(), 4);
    x.keep(3, 1, 1, 9);
    Ships.row(x, 4, 0, 5);
    x.restore();
    due("a KIND stays on its SHELF", x.cost(3), 11);
    due("a ROW stays on its SHELF", x.element(4, 0), 5);
    due("who comes behind is 3", x.comes(3), 3);
    NoManMaySail y = new NoManMaySail();
    due("restore without an image", y.restore(), -3);
    due("image of nobody", y.image(), 0);
    Ships.cape(y, "p00;p00;s013;n09;");
    due("restore nobody", y.restore(), 0);
    due("restored: nobody", y.count(0), 0);
    Ships.cape(y, "p00;p00;");
    due("restored: has SAVED nobody", y.saved(0, 1), 0);
  }

  // Promise 43
  private void count() {
    NoManMaySail x = Ships.ship("p24;p19;p30;p00;s122;s231;s322;b02;b11;b20;b32;l3;w7;n02;l2;");
    int[] due = {4, 2, 7, 2, 1, 14, 2};
    for (int what = 0; what < due.length; what++) {
      due("count(" + what + ")", x.count(what), due[what]);
    }
    x.sets(0, 0);
    due("count(6) by LAW 0", x.count(6), 3);
    for (int bad : new int[] {-1, 7, LEAST, MOST}) {
      due("count(" + bad + ")", x.count(bad), -1);
    }
  }
}
