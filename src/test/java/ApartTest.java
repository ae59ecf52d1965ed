import java.util.ArrayList;
import java.util.List;

/**
 * What is asked, or refused, changes nothing: each question has the same answer behind every other
 * one, and behind THE IMAGE was RESTORED, as on an object that was asked nothing else.
 */
public final class ApartTest {
  private static final String[] QUESTIONS = {
    "sailor 0 4", "sailor 1 5", "sailor 2 6", "sailor 3 7", "sailor 4 2", "sailor 5 3", "saved 1 0", "saved 3 4",
    "may 0 1", "may 1 2", "may 3 4", "with 0", "with 1", "with 4", "lawful 0", "lawful 1", "lawful 2", "largest 0",
    "largest 1", "fewestBoats -1", "fewestBoats 0", "fewestBoats 3", "fewestBoats 5", "manned 2 2 1 -1",
    "manned 2 2 1 0", "manned 1 1 1 3", "manned 4 0 0 -1", "manned 3 3 3 -1", "bestCrew 2 0", "bestCrew 3 1",
    "cheapest 10 0", "cheapest 20 1", "quarrels", "strictest 3", "strictest 4", "strictest 5", "freeLaw 0 1",
    "freeLaw 3 4", "owed 0", "owed 1", "owed 3", "mostOwed", "owes 0", "owes 4", "rings 0", "rings 1", "line 0 4",
    "line 4 0", "two 1 2 8", "two 2 1 8", "behind 0 1", "behind 2 3", "behind 4 60", "lostIn 0",
    "lostIn 1", "lostIn 60", "unmanned",
    "falls 0 0", "falls 0 1", "falls 1 0", "falls 1 1", "falls 2 0", "keepAshore 1", "keepAshore 5", "calm 1",
    "calm 60", "stranger 2 0", "stranger 2 1", "hire 0 0 1", "hire 1 9 3", "hire 2 4 60", "two 0 1 4", "two 2 3 5",
    "two 4 3 0", "odds 0 2 3 0", "odds 4 7 20 0", "odds 4 7 20 1", "whatIs 0 0 0", "whatIs 0 0 1", "whatIs 0 4 0",
    "mean 0", "mean 1", "forged 1", "judge 2", "capes 3 7 0", "capes 3 7 1", "count 0", "count 1", "count 2",
    "count 3", "count 4", "count 5", "count 6", "cost 3", "toss 3", "element 0 1", "sailor 6 0", "with 6", "may 0 6",
    "bestCrew 4 1", "bestCrew 5 1", "cheapest 0 1", "cheapest 30 1", "manned 2 2 2 -1", "manned 3 0 0 -1", "two 0 2 3",
    "two 2 0 3", "two 0 3 9", "two 3 0 9", "two 0 6 0", "freeLaw 0 6", "line 0 6", "owed 6", "owes 6", "behind 6 0",
    "stranger 6 0", "odds 6 0 2 0", "whatIs 0 6 0", "fewestBoats 6", "manned 0 0 0 6", "cape 4", "cape 5", "comes 0",
    "saves 0 6 1", "boards 6 0", "sets 0 4", "seasons 61", "keep 3 1 8 0", "row 0 0 101", "copy 0 0 1 0 1"
  };
  private static final String[] SHIPS = {
    "p24;p19;p58;p04;p66;p22;s012;s341;s433;s103;b00;b10;b31;b41;l1;w4;n02;",
    "p23;p10;p09;p79;p24;p30;s233;s323;s042;b00;b10;b31;b42;b52;w5;n01;b10;",
    "p65;p13;p13;p45;p51;p00;s012;s121;s233;s343;b00;b10;b20;b31;b41;w3;l3;n07;",
    "p04;p13;p28;p36;p41;p59;s012;s122;s233;s342;s451;b02;b22;b41;b50;w9;"
  };
  private static final Check check = new Check();

  public static void main(String[] args) {
    for (String text : SHIPS) {
      List<Long> alone = new ArrayList<>();
      for (String question : QUESTIONS) {
        alone.add(Calls.answer(ship(text), question));
      }
      behindEachOther(text, alone);
      restored(text, alone);
      madeByCalls(text, alone);
    }
    check.end("ApartTest");
  }

  private static NoManMaySail ship(String text) {
    return withShelves(Ships.ship(text));
  }

  private static NoManMaySail withShelves(NoManMaySail x) {
    Ships.row(x, 0, 1, 0, 0, -32768, 9);
    Ships.row(x, 1, 0, 0, 1, 1, 0, 3, 4);
    Ships.row(x, 2, 2, 0, 1, 1, 1);
    x.keep(3, 1, 4, 7);
    // Texts that change nearly all in mind ahead of their FAULT.
    Ships.tell(x, 4, "p73;s013;s101;s433;s341;l0;w9;n05;b29;b41;p90;");
    Ships.tell(x, 5, "p00;l3;w0;s010;s430;s121;n01;p00;p00;");
    return x;
  }

  private static void behindEachOther(String text, List<Long> alone) {
    NoManMaySail x = ship(text);
    for (String first : QUESTIONS) {
      for (int i = 0; i < QUESTIONS.length; i++) {
        Calls.answer(x, first);
        check.due("'" + text + "': " + QUESTIONS[i] + " behind " + first, Calls.answer(x, QUESTIONS[i]), alone.get(i));
      }
    }
  }

  /** All that THE IMAGE holds is changed, then it is RESTORED. */
  private static void restored(String text, List<Long> alone) {
    NoManMaySail x = ship(text);
    x.image();
    x.keep(6, 1, 7, 9);
    x.comes(6);
    x.saves(0, 6, 3);
    x.saves(1, 0, 0);
    x.saves(3, 4, 0);
    x.boards(2, 0);
    x.boards(3, 9);
    x.sets(0, 0);
    x.sets(1, 0);
    x.seasons(4);
    x.restore();
    for (int i = 0; i < QUESTIONS.length; i++) {
      check.due("'" + text + "': " + QUESTIONS[i] + " restored", Calls.answer(x, QUESTIONS[i]), alone.get(i));
    }
  }

  /** Each question is the first one that is asked of an object for which no text was read. */
  private static void madeByCalls(String text, List<Long> alone) {
    for (int i = 0; i < QUESTIONS.length; i++) {
      NoManMaySail x = new NoManMaySail();
      for (String statement : text.split(";")) {
        check.holds(statement + " is done", does(x, statement) >= 0);
      }
      withShelves(x);
      check.due("'" + text + "': " + QUESTIONS[i] + " by calls", Calls.answer(x, QUESTIONS[i]), alone.get(i));
    }
  }

  private static int does(NoManMaySail x, String statement) {
    int[] digits = statement.substring(1).chars().map(c -> c - '0').toArray();
    switch (statement.charAt(0)) {
      case 'p':
        x.keep(0, 1, digits[0], digits[1]);
        return x.comes(0);
      case 's':
        return x.saves(digits[0], digits[1], digits[2]);
      case 'b':
        return x.boards(digits[0], digits[1]);
      case 'l':
        return x.sets(0, digits[0]);
      case 'w':
        return x.sets(1, digits[0]);
      default:
        return x.seasons(10 * digits[0] + digits[1]);
    }
  }
}
