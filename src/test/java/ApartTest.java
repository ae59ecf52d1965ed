import java.util.ArrayList;
import java.util.List;

/**
 * What is asked changes nothing: each question has the same answer behind every other question, and
 * behind THE IMAGE was RESTORED, as on an object that was asked nothing else.
 */
public final class ApartTest {
  private static final String[] QUESTIONS = {
    "sailor 0 4", "sailor 1 5", "sailor 2 6", "sailor 3 7", "sailor 4 2", "sailor 5 3", "saved 1 0", "saved 3 4",
    "may 0 1", "may 1 2", "may 3 4", "with 0", "with 1", "with 4", "lawful 0", "lawful 1", "lawful 2", "largest 0",
    "largest 1", "fewestBoats -1", "fewestBoats 0", "fewestBoats 3", "fewestBoats 5", "manned 2 2 1 -1",
    "manned 2 2 1 0", "manned 1 1 1 3", "manned 4 0 0 -1", "manned 3 3 3 -1", "bestCrew 2 0", "bestCrew 3 1",
    "cheapest 10 0", "cheapest 20 1", "quarrels", "strictest 3", "strictest 4", "strictest 5", "freeLaw 0 1",
    "freeLaw 3 4", "owed 0", "owed 1", "owed 3", "mostOwed", "owes 0", "owes 4", "rings 0", "rings 1", "line 0 4",
    "line 4 0", "behind 0 1", "behind 2 3", "behind 4 60", "lostIn 0", "lostIn 1", "lostIn 60", "unmanned",
    "falls 0 0", "falls 0 1", "falls 1 0", "falls 1 1", "falls 2 0", "keepAshore 1", "keepAshore 5", "calm 1",
    "calm 60", "stranger 2 0", "stranger 2 1", "hire 0 0 1", "hire 1 9 3", "hire 2 4 60", "two 0 1 4", "two 2 3 5",
    "two 4 3 0", "odds 0 2 3 0", "odds 4 7 20 0", "odds 4 7 20 1", "whatIs 0 0 0", "whatIs 0 0 1", "whatIs 0 4 0",
    "mean 0", "mean 1", "forged 1", "judge 2", "capes 3 7 0", "capes 3 7 1", "count 0", "count 1", "count 2",
    "count 3", "count 4", "count 5", "count 6", "cost 3", "toss 3", "element 0 1", "sailor 6 0", "with 6", "may 0 6"
  };
  private static final String[] SHIPS = {
    "p24;p19;p58;p04;p66;p22;s012;s341;s433;s103;b00;b10;b31;b41;l1;w4;n02;",
    "p23;p10;p09;p79;p24;p30;s233;s323;s042;b00;b10;b31;b42;b52;w5;n01;b10;",
    "p65;p13;p13;p45;p51;p00;s012;s121;s233;s343;b00;b10;b20;b31;b41;w3;l3;n07;"
  };
  private static final Check check = new Check();

  public static void main(String[] args) {
    for (String text : SHIPS) {
      List<Long> alone = new ArrayList<>();
      for (String question : QUESTIONS) {
        alone.add(Calls.answer(ship(text), question));
      }
      behindEachOther(text, alone);
      restored(text, alone);
    }
    check.end("ApartTest");
  }

  private static NoManMaySail ship(String text) {
    NoManMaySail x = Ships.ship(text);
    Ships.row(x, 0, 1, 0, 0, -32768, 9);
    Ships.row(x, 1, 0, 0, 1, 1, 0, 3, 4);
    Ships.row(x, 2, 2, 0, 1, 1, 1);
    x.keep(3, 1, 4, 7);
    return x;
  }

  private static void behindEachOther(String text, List<Long> alone) {
    NoManMaySail x = ship(text);
    for (String first : QUESTIONS) {
      for (int i = 0; i < QUESTIONS.length; i++) {
        Calls.answer(x, first);
        check.due("'" + text + "': " + QUESTIONS[i] + " behind " + first, Calls.answer(x, QUESTIONS[i]), alone.get(i));
      }
    }
  }

  /** All that THE IMAGE holds is changed, then it is RESTORED. */
  private static void restored(String text, List<Long> alone) {
    NoManMaySail x = ship(text);
    x.image();
    x.keep(4, 1, 7, 9);
    x.comes(4);
    x.saves(0, 6, 3);
    x.saves(1, 0, 0);
    x.saves(3, 4, 0);
    x.boards(2, 0);
    x.boards(3, 9);
    x.sets(0, 0);
    x.sets(1, 0);
    x.seasons(4);
    x.restore();
    for (int i = 0; i < QUESTIONS.length; i++) {
      check.due("'" + text + "': " + QUESTIONS[i] + " restored", Calls.answer(x, QUESTIONS[i]), alone.get(i));
    }
  }
}
