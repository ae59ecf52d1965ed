import java.util.ArrayList;
import java.util.Arrays;
import java.util.List;
import java.util.Random;

/** Runs of drawn calls, each answered by the class as by the model; the seeds are written down. */
public final class ModelTest {
  private static final int RUNS = 1500;
  private static final int CALLS = 220;

  /** Each call with the ranges of its arguments; p is a sailor, d a shelf, s a seed, v any int. */
  private static final String[] FACE = {
    "cape d", "sailor p 0..7", "saved p p", "comes d", "saves p p 0..3", "boards p 0..9",
    "boards p 0..2", "sets 0..1 0..9", "seasons 1..60", "seasons 1..3", "may p p", "with p",
    "lawful 0..2", "largest 0..1", "fewestBoats p", "fewestBoats -1..-1", "manned 0..4 0..4 0..4 p",
    "manned 0..3 0..3 0..2 p", "manned 0..3 0..3 0..3 -1..-1", "bestCrew 1..5 0..1",
    "cheapest 0..60 0..1", "quarrels", "strictest 1..8", "freeLaw p p", "owed p", "mostOwed",
    "owes p", "rings 0..1", "line p p", "behind p 0..60", "behind p 0..4", "lostIn 0..60",
    "lostIn 0..3", "unmanned", "falls 0..2 0..1", "keepAshore 0..60", "keepAshore 0..9",
    "calm 0..60", "calm 0..9", "stranger p 0..1", "hire 0..2 0..9 0..60", "hire 0..2 0..9 0..9",
    "two p p 0..9", "odds p 0..7 2..20 0..1", "whatIs d p 0..1", "mean 0..1", "forged d", "judge d",
    "capes 1..20 s 0..1", "image", "restore", "count 0..6", "keep d 0..1 0..7 0..9",
    "row d 0..2 0..100", "put d 0..9 v", "element d 0..9", "copy d 0..9 d 0..9 0..9", "cost d",
    "toss d"
  };

  private static final Check check = new Check();

  private final Random random;
  private final NoManMaySail ship = new NoManMaySail();
  private final Model model = new Model();
  private final StringBuilder told = new StringBuilder();
  private int calls = 0;

  private ModelTest(long seed) {
    random = new Random(seed);
  }

  public static void main(String[] args) {
    for (int run = 0; run < RUNS && check.failed() < 5; run++) {
      new ModelTest(run).sail();
    }
    check.end("ModelTest");
  }

  private void sail() {
    boolean filled = random.nextInt(5) > 0;
    if (filled) {
      cape(crewText());
    }
    int before = check.failed();
    while (calls < CALLS && check.failed() == before) {
      int kind = random.nextInt(24);
      if (kind == 0) {
        cape(text());
      } else if (kind == 1) {
        whereabouts();
      } else if (kind == 2) {
        lostOnes();
      } else if (kind == 3) {
        pairs();
      } else if (kind < 8) {
        shape();
      } else {
        drawn(FACE[random.nextInt(FACE.length)]);
      }
    }
    if (check.failed() > before) {
      System.out.println("behind " + told);
    }
  }

  private int people() {
    return model.w.men.size();
  }

  private int anyone() {
    return people() == 0 ? 0 : random.nextInt(people());
  }

  /** Keeps a run from coming to rest: who is ashore boards again, laws and seas change. */
  private void shape() {
    switch (random.nextInt(4)) {
      case 0:
        call("boards", anyone(), random.nextInt(3));
        break;
      case 1:
        call("saves", anyone(), anyone(), random.nextInt(4));
        break;
      case 2:
        call("sets", 1, random.nextInt(10));
        break;
      default:
        call("seasons", 1);
        break;
    }
  }

  private void drawn(String line) {
    String[] words = line.split(" ");
    int[] arguments = new int[words.length - 1];
    for (int i = 0; i < arguments.length; i++) {
      arguments[i] = argument(words[i + 1]);
    }
    call(words[0], arguments);
  }

  private int argument(String range) {
    int[] far = {Integer.MIN_VALUE, Integer.MAX_VALUE, -2, -1, 8, 9, 100, 101, 61};
    if (random.nextInt(60) == 0) {
      return far[random.nextInt(far.length)];
    }
    switch (range) {
      case "p":
        return random.nextInt(30) == 0 ? people() : anyone();
      case "d":
        return random.nextInt(30) == 0 ? 8 : random.nextInt(4);
      case "s":
        return random.nextInt();
      case "v":
        return random.nextBoolean() ? random.nextInt() : random.nextInt(300) - 150;
      default:
        String[] ends = range.split("\\.\\.");
        int least = Integer.parseInt(ends[0]);
        int most = Integer.parseInt(ends[1]);
        int way = random.nextInt(40);
        return way == 0 ? least - 1 : way == 1 ? most + 1 : least + random.nextInt(most - least + 1);
    }
  }

  private String crewText() {
    StringBuilder text = new StringBuilder();
    int n = random.nextInt(9);
    for (int p = 0; p < n; p++) {
      text.append('p').append(random.nextInt(8)).append(random.nextInt(10)).append(';');
    }
    for (int i = random.nextInt(7); n > 1 && i > 0; i--) {
      int p = random.nextInt(n);
      int q = (p + 1 + random.nextInt(n - 1)) % n;
      text.append('s').append(p).append(q).append(random.nextInt(4)).append(';');
    }
    for (int p = 0; p < n; p++) {
      text.append('b').append(p).append(random.nextInt(3)).append(';');
    }
    text.append('w').append(random.nextInt(7)).append(';');
    return text.length() > 100 ? text.substring(0, 100) : text.toString();
  }

  private String text() {
    StringBuilder text = new StringBuilder();
    for (int i = random.nextInt(8); i > 0; i--) {
      int a = anyone();
      int b = anyone();
      switch (random.nextInt(7)) {
        case 0:
          text.append('p').append(random.nextInt(9)).append(random.nextInt(10));
          break;
        case 1:
        case 2:
          text.append('s').append(a).append(b).append(random.nextInt(4));
          break;
        case 3:
          text.append('b').append(a).append(random.nextInt(5) == 0 ? 9 : random.nextInt(3));
          break;
        case 4:
          text.append('l').append(random.nextInt(4));
          break;
        case 5:
          text.append('w').append(random.nextInt(10));
          break;
        default:
          text.append('n').append(random.nextInt(7)).append(random.nextInt(10));
          break;
      }
      text.append(';');
    }
    if (text.length() > 0 && random.nextInt(3) == 0) {
      String signs = "psblwn;0123456789 :/\u00b0";
      int at = random.nextInt(text.length());
      text.setCharAt(at, signs.charAt(random.nextInt(signs.length())));
    }
    if (text.length() > 0 && random.nextInt(6) == 0) {
      text.setLength(random.nextInt(text.length()));
    }
    return text.toString();
  }

  private void cape(String text) {
    call("row", 0, 0, text.length());
    for (int i = 0; i < text.length(); i++) {
      call("put", 0, i, text.charAt(i));
    }
    call("cape", 0);
    calls -= text.length();
  }

  private void whereabouts() {
    if (people() == 0) {
      return;
    }
    int p = anyone();
    int n = random.nextInt(12);
    int[] cells = new int[n];
    for (int i = 0; i < n; i++) {
      int where = (int) model.behind(p, i);
      cells[i] = where == -4 ? 8 : where;
    }
    tell(cells, random.nextInt(10));
    call("whatIs", 1, p, 0);
    call("whatIs", 1, p, 1);
  }

  private void lostOnes() {
    int[] cells = new int[random.nextInt(30)];
    for (int i = 0; i < cells.length; i++) {
      cells[i] = (int) model.lostIn(i);
    }
    tell(cells, random.nextInt(9));
    call("judge", 1);
  }

  private void pairs() {
    List<Integer> list = new ArrayList<>();
    for (int p = 0; p < people(); p++) {
      for (int q = 0; q < people(); q++) {
        if (p != q && model.w.counts(p, q, model.w.law)) {
          list.add(p);
          list.add(q);
        }
      }
    }
    if (random.nextInt(8) == 0) {
      list.add(1);
    }
    tell(list.stream().mapToInt(i -> i).toArray(), random.nextInt(9));
    call("forged", 1);
  }

  /** Puts cells on shelf 1, some skipped and now and then one wrong. */
  private void tell(int[] cells, int most) {
    int sort = random.nextInt(3);
    int[] leasts = {Byte.MIN_VALUE, Short.MIN_VALUE, Integer.MIN_VALUE};
    call("row", 1, sort, cells.length);
    int wrong = random.nextInt(3) == 0 && cells.length > 0 ? random.nextInt(cells.length) : -1;
    for (int i = 0; i < cells.length; i++) {
      int v = random.nextInt(10) < most / 3 ? leasts[random.nextInt(3)] : cells[i];
      call("put", 1, i, i == wrong ? random.nextInt(11) - 1 : v);
    }
    calls -= cells.length;
  }

  private void call(String name, int... arguments) {
    String words = name + Arrays.toString(arguments);
    told.append(words).append("; ");
    check.due(words, Calls.answer(ship, name, arguments), Calls.answer(model, name, arguments));
    calls++;
  }
}
