/** Promises 44 to 50: shelves. */
final class ShelvesHold {
  private static final int LEAST = Integer.MIN_VALUE;
  private static final int MOST = Integer.MAX_VALUE;
  private final Check check;

  ShelvesHold(Check check) {
    this.check = check;
  }

  void all() {
    keep();
    row();
    put();
    element();
    copy();
    costAndToss();
  }

  private void due(String call, long got, long want) {
    check.due(call, got, want);
  }

  /** What element throws: 1 IllegalArgumentException, 2 IllegalStateException, 0 nothing. */
  private static int thrown(NoManMaySail x, int d, int i) {
    try {
      x.element(d, i);
      return 0;
    } catch (RuntimeException e) {
      if (e.getClass() == IllegalArgumentException.class) {
        return 1;
      }
      return e.getClass() == IllegalStateException.class ? 2 : 3;
    }
  }

  // Promise 44
  private void keep() {
    NoManMaySail x = new NoManMaySail();
    for (int d = 0; d < 8; d++) {
      due("keep(" + d + ", 1, 1, " + d + ")", x.keep(d, 1, 1, d), 0);
    }
    for (int d = 0; d < 8; d++) {
      due("kept on " + d, x.cost(d), 2 + d);
    }
    due("keep(0, 1, 7, 9)", x.keep(0, 1, 7, 9), 0);
    due("kept anew", x.cost(0), 4);
    String before = Ships.seen(x);
    for (int bad : new int[] {-1, 8, LEAST, MOST}) {
      due("keep(" + bad + ", 1, 0, 0)", x.keep(bad, 1, 0, 0), -1);
      due("keep(" + bad + ", 0, 0, 0)", x.keep(bad, 0, 0, 0), -1);
      due("keep(1, 1, " + bad + ", 0)", x.keep(1, 1, bad, 0), -1);
    }
    for (int bad : new int[] {-1, 2, LEAST, MOST}) {
      due("keep(1, " + bad + ", 0, 0)", x.keep(1, bad, 0, 0), -1);
    }
    for (int bad : new int[] {-1, 10, LEAST, MOST}) {
      due("keep(1, 1, 0, " + bad + ")", x.keep(1, 1, 0, bad), -1);
    }
    check.holds("refused keeping changes nothing", before.equals(Ships.seen(x)));
    due("keep(2, 0, -5, 99)", x.keep(2, 0, -5, 99), 0);
    due("kept nothing", x.cost(2), -11);
    due("kept beside it", x.cost(3), 5);
    Ships.row(x, 3, 0, 1);
    due("keep in place of a ROW", x.keep(3, 1, 0, 0), 0);
    due("kept in place of a ROW", x.cost(3), 2);
    due("no ROW there", thrown(x, 3, 0), 2);
  }

  // Promise 45
  private void row() {
    NoManMaySail x = new NoManMaySail();
    for (int sort = 0; sort < 3; sort++) {
      due("row(0, " + sort + ", 100)", x.row(0, sort, 100), 0);
      due("the last of 100", x.element(0, 99), 0);
      due("behind the last of 100", thrown(x, 0, 100), 2);
      x.put(0, 0, 7);
      x.put(0, 99, 7);
      due("row(0, " + sort + ", 100) again", x.row(0, sort, 100), 0);
      due("all 0 at first", x.element(0, 0) + x.element(0, 99), 0);
      due("row(0, " + sort + ", 0)", x.row(0, sort, 0), 0);
      due("nothing in it", thrown(x, 0, 0), 2);
    }
    x.row(0, 2, 1);
    x.put(0, 0, 9);
    String before = Ships.seen(x);
    for (int bad : new int[] {-1, 8, LEAST, MOST}) {
      due("row(" + bad + ", 0, 1)", x.row(bad, 0, 1), -1);
      due("row(" + bad + ", 0, -1)", x.row(bad, 0, -1), -1);
    }
    for (int bad : new int[] {-1, 3, LEAST, MOST}) {
      due("row(0, " + bad + ", 1)", x.row(0, bad, 1), -1);
      due("row(0, " + bad + ", -1)", x.row(0, bad, -1), -1);
    }
    due("row(0, 0, 101)", x.row(0, 0, 101), -1);
    due("row(0, 0, MOST)", x.row(0, 0, MOST), -1);
    due("row(0, 0, -1)", x.row(0, 0, -1), -14);
    due("row(0, 0, LEAST)", x.row(0, 0, LEAST), -14);
    check.holds("refused rows change nothing", before.equals(Ships.seen(x)));
  }

  // Promise 46
  private void put() {
    NoManMaySail x = new NoManMaySail();
    int[] values = {0, 1, -1, 127, 128, 255, 256, -128, -129, 32767, 32768, 65535, 70000, -32769, LEAST, MOST};
    for (int sort = 0; sort < 3; sort++) {
      x.row(sort, sort, 2);
      for (int v : values) {
        due("put(" + sort + ", 1, " + v + ")", x.put(sort, 1, v), 0);
        long kept = sort == 0 ? (byte) v : sort == 1 ? (short) v : v;
        due("put and kept " + v, x.element(sort, 1), kept);
        due("put beside it", x.element(sort, 0), 0);
      }
    }
    x.keep(3, 1, 0, 0);
    for (int bad : new int[] {-1, 8, LEAST, MOST}) {
      due("put(" + bad + ", 0, 0)", x.put(bad, 0, 0), -1);
    }
    due("put into nothing", x.put(4, 0, 0), -11);
    due("put into nothing, no place", x.put(4, -1, 0), -11);
    due("put into a KIND", x.put(3, 0, 0), -12);
    for (int bad : new int[] {-1, 2, 100, LEAST, MOST}) {
      due("put(0, " + bad + ", 0)", x.put(0, bad, 0), -13);
    }
    x.row(0, 0, 0);
    due("put into an empty ROW", x.put(0, 0, 0), -13);
  }

  // Promise 47
  private void element() {
    NoManMaySail x = new NoManMaySail();
    Ships.row(x, 0, 2, 5, LEAST, MOST);
    due("element(0, 0)", x.element(0, 0), 5);
    due("element(0, 1)", x.element(0, 1), LEAST);
    due("element(0, 2)", x.element(0, 2), MOST);
    x.keep(1, 1, 0, 0);
    for (int bad : new int[] {-1, 8, LEAST, MOST}) {
      due("element(" + bad + ", 0) throws", thrown(x, bad, 0), 1);
      due("element(" + bad + ", -1) throws", thrown(x, bad, -1), 1);
    }
    for (int bad : new int[] {-1, 3, 100, LEAST, MOST}) {
      due("element(0, " + bad + ") throws", thrown(x, 0, bad), 2);
    }
    due("element of a KIND throws", thrown(x, 1, 0), 2);
    due("element of nothing throws", thrown(x, 2, 0), 2);
    due("element throws nothing", thrown(x, 0, 2), 0);
  }

  // Promise 48
  private void copy() {
    NoManMaySail x = new NoManMaySail();
    for (int sort = 0; sort < 3; sort++) {
      Ships.row(x, 0, sort, 1, 2, 3, 4, 5);
      Ships.row(x, 1, sort, 9, 9, 9);
      due("copy(0, 2, 1, 1, 2)", x.copy(0, 2, 1, 1, 2), 2);
      check.holds("copied", Ships.cells(x, 1).equals("[9 3 4 ]"));
      check.holds("copied from", Ships.cells(x, 0).equals("[1 2 3 4 5 ]"));
      due("copy(0, 0, 0, 1, 4)", x.copy(0, 0, 0, 1, 4), 4);
      check.holds("copied upward in itself", Ships.cells(x, 0).equals("[1 1 2 3 4 ]"));
      due("copy(0, 1, 0, 0, 4)", x.copy(0, 1, 0, 0, 4), 4);
      check.holds("copied downward in itself", Ships.cells(x, 0).equals("[1 2 3 4 4 ]"));
    }
    due("copy of all", x.copy(1, 0, 0, 2, 3), 3);
    due("copy of none", x.copy(0, 0, 1, 0, 0), 0);
    due("copy of none at the ends", x.copy(0, 5, 1, 3, 0), 0);
    String before = Ships.seen(x);
    int[][] noPlaces = {{6, 0, 0}, {0, 4, 0}, {-1, 0, 0}, {0, -1, 0}, {0, 0, -1}, {0, 0, 4}, {3, 0, 3}, {0, 1, 3},
        {0, 0, MOST}, {MOST, 0, 1}, {0, MOST, 1}, {1, 1, MOST}, {LEAST, 0, 1}, {0, LEAST, 1}, {0, 0, LEAST}};
    for (int[] at : noPlaces) {
      due("copy " + at[0] + ", " + at[1] + ", " + at[2], x.copy(0, at[0], 1, at[1], at[2]), -13);
    }
    due("copy of more than is there", x.copy(1, 0, 0, 0, 4), -13);
    x.keep(2, 1, 0, 0);
    x.row(3, 0, 5);
    x.row(4, 1, 5);
    due("copy(-1, ..)", x.copy(-1, 0, 5, 0, 1), -1);
    due("copy(8, ..)", x.copy(8, 0, 0, 0, 1), -1);
    due("copy(.., -1, ..)", x.copy(5, 0, -1, 0, 1), -1);
    due("copy(.., 8, ..)", x.copy(0, 0, 8, 0, 1), -1);
    due("copy from nothing", x.copy(5, 0, 0, 0, 1), -11);
    due("copy to nothing", x.copy(0, 0, 5, 0, 1), -11);
    due("copy of a KIND to nothing", x.copy(2, 0, 5, 0, 1), -11);
    due("copy of nothing to a KIND", x.copy(5, 0, 2, 0, 1), -11);
    due("copy of a KIND", x.copy(2, 0, 0, 0, 1), -12);
    due("copy to a KIND", x.copy(0, 0, 2, 0, 1), -12);
    due("copy of bytes to a KIND", x.copy(3, 0, 2, 0, 1), -12);
    due("copy of a KIND to bytes", x.copy(2, 0, 3, 0, 1), -12);
    due("copy of KINDS", x.copy(2, 0, 2, 0, 1), -12);
    due("copy of two SORTS", x.copy(3, 0, 4, 0, 1), -12);
    due("copy of two SORTS, no place", x.copy(3, 9, 4, 9, -1), -12);
    due("copy of ints to bytes", x.copy(0, 0, 3, 0, 1), -12);
    x.keep(2, 0, 0, 0);
    x.keep(3, 0, 0, 0);
    x.keep(4, 0, 0, 0);
    check.holds("refused copies change nothing", before.equals(Ships.seen(x)));
  }

  // Promises 49 and 50
  private void costAndToss() {
    NoManMaySail x = new NoManMaySail();
    for (int f = 0; f < 10; f++) {
      int[] cost = {2, 2 + f, 1, 9, 4 + 2 * f, 4, 6, 4};
      int[] toss = {f, 100 + f, f, -15, 204 + 2 * f, f, f, -15};
      for (int k = 0; k < 8; k++) {
        x.keep(6, 1, k, f);
        due("cost of KIND " + k + ", FIGURE " + f, x.cost(6), cost[k]);
        due("toss of KIND " + k + ", FIGURE " + f, x.toss(6), f == 0 ? -15 : toss[k]);
      }
    }
    x.row(1, 0, 3);
    for (int bad : new int[] {-1, 8, LEAST, MOST}) {
      due("cost(" + bad + ")", x.cost(bad), -1);
      due("toss(" + bad + ")", x.toss(bad), -1);
    }
    due("cost of nothing", x.cost(0), -11);
    due("toss of nothing", x.toss(0), -11);
    due("cost of a ROW", x.cost(1), -12);
    due("toss of a ROW", x.toss(1), -12);
  }
}
