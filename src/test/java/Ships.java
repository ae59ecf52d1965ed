/** Makes ships for the tests, and tells all that can be seen of one. */
final class Ships {
  /** One of each KIND, by its number, all ASHORE. */
  static final String ALL_KINDS = "p04;p13;p27;p30;p45;p58;p66;p79;";

  private Ships() {}

  /** A new ship with a text that must be without FAULT; an empty one is left out. */
  static NoManMaySail ship(String text) {
    NoManMaySail x = new NoManMaySail();
    if (!text.isEmpty() && cape(x, text) < 1) {
      throw new IllegalArgumentException("a text with a fault: " + text);
    }
    return x;
  }

  static int cape(NoManMaySail x, String text) {
    tell(x, 7, text);
    return x.cape(7);
  }

  static void tell(NoManMaySail x, int d, String text) {
    x.row(d, 0, text.length());
    for (int i = 0; i < text.length(); i++) {
      x.put(d, i, text.charAt(i));
    }
  }

  static void row(NoManMaySail x, int d, int sort, int... cells) {
    x.row(d, sort, cells.length);
    for (int i = 0; i < cells.length; i++) {
      x.put(d, i, cells[i]);
    }
  }

  /** All of the cape and the shelves that calls tell without changing it. */
  static String seen(NoManMaySail x) {
    return seenAtSea(x) + seenOnShelves(x);
  }

  static String seenAtSea(NoManMaySail x) {
    StringBuilder all = new StringBuilder();
    for (int what = 0; what < 7; what++) {
      all.append(x.count(what)).append(' ');
    }
    for (int p = 0; p < x.count(0); p++) {
      for (int what = 0; what < 8; what++) {
        all.append(x.sailor(p, what)).append(' ');
      }
      for (int q = 0; q < x.count(0); q++) {
        all.append(x.saved(p, q)).append(' ');
      }
    }
    return all.toString();
  }

  static String seenOnShelves(NoManMaySail x) {
    StringBuilder all = new StringBuilder();
    for (int d = 0; d < 8; d++) {
      all.append(x.cost(d)).append(' ').append(x.toss(d)).append(' ').append(cells(x, d));
    }
    return all.toString();
  }

  static String cells(NoManMaySail x, int d) {
    StringBuilder all = new StringBuilder("[");
    try {
      for (int i = 0; i <= 100; i++) {
        all.append(x.element(d, i)).append(' ');
      }
    } catch (IllegalStateException end) {
      all.append(']');
    }
    return all.toString();
  }
}
