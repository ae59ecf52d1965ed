import java.util.Arrays;

/**
 * Runs of calls as they are told, one a line: "seasons 39 = 0". Behind a REFUSAL all must be as it
 * was. Two lines are no calls: "text p00;b00; = 2" puts a text on SHELF 7 and asks cape of it, and
 * "bytes 1: 0 9" (shorts, ints) puts a ROW on a SHELF.
 */
final class Script {
  private static final String[] SORTS = {"bytes", "shorts", "ints"};
  private final Check check;

  Script(Check check) {
    this.check = check;
  }

  /** Runs on a new object with a text, if there is one. */
  NoManMaySail run(String text, String... lines) {
    NoManMaySail x = Ships.ship(text);
    on(x, text, lines);
    return x;
  }

  void on(NoManMaySail x, String whose, String... lines) {
    for (String line : lines) {
      String[] sides = line.split(" = ");
      if (sides.length == 1) {
        putsRow(x, line);
      } else if (line.startsWith("text ")) {
        String text = sides[0].substring(5);
        Ships.tell(x, 7, text);
        asks(x, whose + "' and '" + text, "cape 7", Calls.due(sides[1]));
      } else {
        asks(x, whose, sides[0], Calls.due(sides[1]));
      }
    }
  }

  private void asks(NoManMaySail x, String whose, String call, long due) {
    boolean refused = due < 0 || due > 1000000000L;
    String before = refused ? Ships.seen(x) : "";
    String label = "'" + whose + "': " + call;
    check.due(label, Calls.answer(x, call), due);
    check.holds(label + " changes nothing", !refused || before.equals(Ships.seen(x)));
  }

  private static void putsRow(NoManMaySail x, String line) {
    String[] words = line.replace(":", "").split(" ");
    int sort = Arrays.asList(SORTS).indexOf(words[0]);
    if (sort < 0 || words.length < 2) {
      throw new IllegalArgumentException("no line of a script: " + line);
    }
    Ships.row(x, Integer.parseInt(words[1]), sort, Calls.numbers(words, 2));
  }
}
