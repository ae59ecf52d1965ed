import java.util.Arrays;

/**
 * Each argument of each call on both sides of its range: the first and the last value is taken, the
 * next one and the ends of int are refused, and what is refused changes nothing.
 */
public final class RangeTest {
  /**
   * The calls by what their arguments may be. P one, Q another one than P; D a SHELF; E another
   * SHELF; a..b a range, refused by -1 or as told behind "!" (below, above); any; =v always v.
   */
  private static final String[] FACE = {
    "cape D", "sailor P 0..7", "saved P Q", "comes D", "saves P Q 0..3", "boards P 0..2", "boards P 9..9",
    "sets 0..1 0..3", "sets =1 0..9", "seasons 1..60", "may P Q", "with P", "lawful 0..2", "largest 0..1",
    "fewestBoats -1..P", "manned 0..4 0..4 0..4 -1..P", "bestCrew 1..5 0..1", "cheapest 0..60 0..1",
    "strictest 1..8", "freeLaw P Q", "owed P", "owes P", "rings 0..1", "line P Q", "behind P 0..60",
    "lostIn 0..60", "falls 0..2 0..1", "keepAshore 0..60", "calm 0..60", "stranger P 0..1",
    "hire 0..2 0..9 0..60", "two P Q 0..9", "odds P!1000000001 0..7!1000000001 2..20!1000000001 0..1!1000000001",
    "whatIs D P 0..1", "mean 0..1!1000000001", "forged D", "judge D", "capes 1..20 any 0..1", "count 0..6",
    "keep D 0..1 =0 =0", "keep D =1 0..7 0..9", "keep D =0 any any", "row D 0..2 0..100!-14!-1",
    "row D 0..2 =-1", "put D 0..3!-13 any", "copy D 0..3!-13 E 0..3!-13 =1", "copy D =0 E =0 0..4!-13",
    "copy D =1 E =0 0..3!-13", "copy D =0 E =3 0..1!-13", "cost D", "toss D",
    "element 0..7!throws.IllegalArgumentException 0..3!throws.IllegalStateException"
  };
  private static final Check check = new Check();

  private final int size;
  private final String name;
  private final String[] ranges;

  private RangeTest(int size, String row) {
    this.size = size;
    String[] words = row.split(" ");
    name = words[0];
    ranges = Arrays.copyOfRange(words, 1, words.length);
  }

  public static void main(String[] args) {
    for (int size : new int[] {1, 2, 7, 8}) {
      for (String row : FACE) {
        if (size > 1 || !row.contains(" Q")) {
          new RangeTest(size, row).probeAll();
        }
      }
    }
    check.end("RangeTest");
  }

  private void probeAll() {
    for (int i = 0; i < ranges.length; i++) {
      String[] parts = ranges[i].split("!");
      String range = parts[0].replace("Q", "0..P").replace("E", "0..7").replace("D", "0..7");
      range = (range.equals("P") ? "0..P" : range).replace("P", "" + (size - 1));
      if (range.contains("..")) {
        int dots = range.indexOf("..");
        int least = Integer.parseInt(range.substring(0, dots));
        int most = Integer.parseInt(range.substring(dots + 2));
        String below = parts.length > 1 ? parts[1] : "-1";
        String above = parts.length > 2 ? parts[2] : below;
        taken(i, new int[] {least, most}, below, above);
        refused(i, new int[] {least - 1, Integer.MIN_VALUE}, below);
        refused(i, new int[] {most + 1, Integer.MAX_VALUE}, above);
      } else if (range.equals("any")) {
        taken(i, new int[] {Integer.MIN_VALUE, -1, 0, Integer.MAX_VALUE}, "-1", "-1");
      }
    }
  }

  private void taken(int place, int[] values, String below, String above) {
    for (int v : values) {
      int[] arguments = arguments(place, v);
      long got = Calls.answer(ship(), name, arguments);
      check.holds(told(arguments) + " is taken", got != Calls.due(below) && got != Calls.due(above));
    }
  }

  private void refused(int place, int[] values, String by) {
    for (int v : values) {
      int[] arguments = arguments(place, v);
      NoManMaySail x = ship();
      String before = Ships.seen(x);
      check.due(told(arguments), Calls.answer(x, name, arguments), Calls.due(by));
      check.holds(told(arguments) + " changes nothing", before.equals(Ships.seen(x)));
    }
  }

  /** One value in its place, the others as they are taken. */
  private int[] arguments(int place, int v) {
    int[] all = new int[ranges.length];
    for (int i = 0; i < all.length; i++) {
      all[i] = i == place ? v : good(ranges[i]);
    }
    if (all.length > 1 && ranges[1].equals("Q")) {
      // One and another one: the one that is not probed gives way.
      int other = place == 0 ? 1 : 0;
      all[other] = all[1 - other] == 0 ? 1 : 0;
    }
    return all;
  }

  private static int good(String range) {
    String plain = range.split("!")[0];
    if (plain.startsWith("=")) {
      return Integer.parseInt(plain.substring(1));
    }
    if (plain.equals("E")) {
      return 1;
    }
    return plain.contains("..") ? Integer.parseInt(plain.substring(0, plain.indexOf(".."))) : 0;
  }

  /** On every SHELF what the call wants there: a KIND, or a ROW of four bytes that is a text. */
  private NoManMaySail ship() {
    NoManMaySail x = Ships.ship("p24;".repeat(size) + "s011;".repeat(size > 1 ? 1 : 0));
    boolean kinds = name.equals("comes") || name.equals("cost") || name.equals("toss");
    for (int d = 0; d < 8; d++) {
      if (kinds) {
        x.keep(d, 1, 1, 9);
      } else {
        Ships.row(x, d, 0, 'b', '0', '1', ';');
      }
    }
    return x;
  }

  private String told(int[] arguments) {
    return "of " + size + ": " + name + Arrays.toString(arguments);
  }
}
