/** The empty and the full: nobody at all, eight ASHORE, eight in one BOAT, eight LOST ones. */
public final class FullEmptyTest {
  private static final String EIGHT = "p04;p04;p04;p04;p04;p04;p04;p04;";
  private static final String BOYS = "p24;p24;p24;p24;p24;p24;p24;p24;";
  private static final Check check = new Check();
  private static final Script script = new Script(check);

  public static void main(String[] args) {
    nobody();
    nobodyIsTold();
    eightAshore();
    eightInOneBoat();
    eightFallOneByOne();
    eightFoes();
    eightLost();
    eightLostAreAskedOn();
    oneAlone();
    check.end("FullEmptyTest");
  }

  /** Promise 1 and what each call makes of nobody. */
  private static void nobody() {
    script.run("",
        "count 0 = 0", "count 1 = 2", "count 2 = 5", "count 3 = 0", "count 4 = 0", "count 5 = 0", "count 6 = 0",
        "sailor 0 0 = -1", "saved 0 1 = -1", "saves 0 1 0 = -1", "boards 0 9 = -1", "may 0 1 = -1",
        "with 0 = -1", "lawful 0 = 1", "lawful 1 = 1", "lawful 2 = 1", "largest 0 = 0", "largest 1 = 0",
        "fewestBoats -1 = 0", "fewestBoats 0 = -1", "manned 0 0 0 -1 = 1", "manned 0 0 0 0 = -1",
        "manned 1 0 0 -1 = 0", "manned 0 1 0 -1 = 0", "manned 0 0 1 -1 = 0", "manned 4 4 4 -1 = 0",
        "bestCrew 1 0 = -4", "bestCrew 1 1 = -4", "bestCrew 5 0 = -4", "bestCrew 5 1 = -4",
        "cheapest 0 0 = 0", "cheapest 0 1 = 0", "cheapest 1 0 = -4", "cheapest 1 1 = -4", "cheapest 60 0 = -4",
        "quarrels = 0", "strictest 1 = -4", "strictest 8 = -4", "freeLaw 0 1 = -1", "owed 0 = -1",
        "mostOwed = -4", "owes 0 = -1", "rings 0 = 0", "rings 1 = -4", "line 0 1 = -1");
    script.run("",
        "behind 0 0 = -1", "lostIn 0 = 0", "lostIn 60 = 0", "unmanned = -4", "falls 0 0 = -4", "falls 2 1 = -4",
        "keepAshore 0 = -4", "keepAshore 60 = -4", "calm 0 = 0", "calm 60 = 0", "stranger 0 0 = -1",
        "hire 0 0 0 = 0", "hire 2 9 60 = 0", "two 0 1 0 = -1", "odds 0 0 2 0 = 1000000001", "mean 0 = 0",
        "mean 1 = 1", "capes 20 1 0 = 0", "capes 20 1 1 = 0", "restore = -3", "image = 0", "restore = 0",
        "seasons 60 = 0", "restore = 0");
  }

  private static void nobodyIsTold() {
    for (int d = 0; d < 8; d++) {
      script.run("",
          "cape " + d + " = -11", "comes " + d + " = -11", "put " + d + " 0 0 = -11", "cost " + d + " = -11",
          "toss " + d + " = -11", "forged " + d + " = -11", "judge " + d + " = -11", "whatIs " + d + " 0 0 = -1",
          "copy " + d + " 0 " + d + " 0 0 = -11", "element " + d + " 0 = throws.IllegalStateException");
    }
    script.run("",
        "ints 0:", "whatIs 0 0 0 = -1", "forged 0 = -4", "judge 0 = -4",
        "ints 0: 0 1", "forged 0 = 0", "judge 0 = 1", "ints 0: 0 0 0", "forged 0 = -13", "judge 0 = -4");
  }

  private static void eightAshore() {
    script.run(EIGHT,
        "count 0 = 8", "count 5 = 0", "with 0 = 254", "with 7 = 127", "lawful 0 = 1", "lawful 2 = 1",
        "largest 0 = 255", "largest 1 = 8", "fewestBoats -1 = 1", "fewestBoats 0 = 0", "fewestBoats 7 = 0",
        "manned 4 4 0 -1 = 1", "manned 4 0 4 -1 = 1", "manned 0 4 4 -1 = 1", "manned 4 4 0 3 = 0",
        "manned 4 4 0 4 = 1", "manned 4 4 0 7 = 1", "manned 4 3 1 7 = 2", "manned 4 3 0 7 = 9",
        "manned 4 4 1 -1 = 0", "manned 4 4 1 0 = -4", "manned 1 4 4 7 = -4", "manned 4 4 4 -1 = 0",
        "bestCrew 1 0 = 1", "bestCrew 1 1 = 4", "bestCrew 5 0 = 31", "bestCrew 5 1 = 20",
        "cheapest 0 0 = 0", "cheapest 0 1 = 0", "cheapest 1 0 = 1", "cheapest 4 0 = 1", "cheapest 5 0 = 3",
        "cheapest 32 0 = 255", "cheapest 32 1 = 16", "cheapest 33 0 = -4", "cheapest 33 1 = -4",
        "quarrels = 0", "strictest 8 = 0", "freeLaw 0 7 = 4", "owed 7 = 0", "owes 7 = 0", "mostOwed = -4",
        "rings 0 = 0", "rings 1 = -4", "line 0 7 = 0", "line 7 0 = 0");
    script.run(EIGHT,
        "sets 1 0 = 5", "behind 7 60 = 9", "lostIn 60 = 0", "unmanned = -4", "falls 0 0 = -4", "falls 2 0 = -4",
        "keepAshore 60 = -4", "calm 60 = 0", "stranger 7 0 = -4", "stranger 7 1 = -4", "hire 0 0 0 = -4",
        "hire 2 9 60 = -4", "two 0 7 4 = 1", "two 0 7 5 = 0", "odds 7 7 20 0 = 1", "odds 7 7 20 1 = 1",
        "mean 0 = 4", "mean 1 = 1", "keep 0 1 0 0 = 0", "comes 0 = -2", "text p00; = -2000", "seasons 60 = 0");
  }

  private static void eightInOneBoat() {
    // RISK and REACH are 4: each SEASON 1 saves 0 by a shout, which does not count by LAW 2.
    script.run(EIGHT + "w4;b01;b11;b21;b31;b41;b51;b61;b71;",
        "count 5 = 255", "lawful 0 = 1", "lawful 1 = 1", "lawful 2 = 1", "falls 0 0 = -4", "falls 1 0 = 0",
        "falls 1 1 = 1", "falls 2 0 = -4", "behind 0 60 = 1", "behind 7 60 = 1", "lostIn 60 = 0", "unmanned = -4",
        "keepAshore 60 = -4", "calm 60 = 0", "stranger 7 0 = -3", "hire 1 0 0 = -4", "odds 0 7 2 0 = 1",
        "seasons 60 = 0", "saved 1 0 = 1", "saved 2 0 = 0", "count 5 = 255", "count 6 = 0", "quarrels = 0");
    script.run(EIGHT + "w4;b01;b11;b21;b31;b41;b51;b61;",
        "stranger 7 0 = 1", "stranger 7 1 = 7", "saves 7 6 2 = 0", "stranger 7 0 = -4", "stranger 7 1 = -4");
  }

  private static void eightFallOneByOne() {
    // By LAW 1 a shout counts: 1 to 7 save 0, each goes ASHORE, then 0 is LOST.
    NoManMaySail x = script.run(EIGHT + "l1;w4;b02;b12;b22;b32;b42;b52;b62;b72;",
        "behind 1 0 = 2", "behind 1 1 = 9", "behind 7 6 = 2", "behind 7 7 = 9", "behind 0 7 = 2",
        "behind 0 8 = -4", "lostIn 7 = 0", "lostIn 8 = 1", "lostIn 60 = 1", "unmanned = 8",
        "calm 7 = 0", "calm 8 = 5", "keepAshore 7 = -4", "keepAshore 8 = -4");
    script.on(x, "eight fall one by one",
        "seasons 7 = 0", "count 5 = 1", "with 0 = 0", "with 1 = 252", "owes 0 = 254", "owed 7 = 1", "mostOwed = 1",
        "largest 0 = 254", "largest 1 = 7", "fewestBoats -1 = 2", "fewestBoats 0 = 0", "fewestBoats 7 = 1",
        "quarrels = 7", "seasons 1 = 1", "count 4 = 1", "count 5 = 0", "quarrels = 0", "fewestBoats -1 = 1",
        "largest 1 = 7", "strictest 7 = 0", "strictest 8 = -4", "manned 4 3 0 -1 = 1", "manned 4 4 0 -1 = 0");
  }

  /** Each has SAVED all who came before him. */
  private static NoManMaySail foes() {
    NoManMaySail x = Ships.ship(EIGHT);
    for (int p = 0; p < 8; p++) {
      for (int q = 0; q < p; q++) {
        x.saves(p, q, 2);
      }
    }
    return x;
  }

  private static void eightFoes() {
    NoManMaySail x = foes();
    script.on(x, "foes",
        "count 6 = 28", "quarrels = 28", "with 0 = 0", "with 7 = 0", "largest 0 = 1", "largest 1 = 1",
        "fewestBoats -1 = 8", "fewestBoats 0 = 0", "fewestBoats 7 = 7", "manned 1 1 1 -1 = 1", "manned 1 1 1 2 = 2",
        "manned 1 1 1 3 = 9", "manned 2 0 0 -1 = 0", "manned 0 2 0 0 = -4",
        "fewestBoats -1 = 8", "fewestBoats 7 = 7", "manned 0 0 1 0 = 2", "bestCrew 1 0 = 1", "bestCrew 2 0 = -4",
        "cheapest 4 0 = 1", "cheapest 5 0 = -4", "strictest 1 = 0", "strictest 2 = 3", "strictest 8 = 3",
        "freeLaw 0 7 = 1", "owed 0 = 0", "owed 7 = 7", "owes 0 = 254", "owes 7 = 0", "mostOwed = 7",
        "rings 0 = 0", "line 7 0 = 1", "line 0 7 = 0", "stranger 0 0 = -4");
    for (int p = 0; p < 8; p++) {
      for (int q = p + 1; q < 8; q++) {
        x.saves(p, q, 3);
      }
    }
    script.on(x, "foes both ways",
        "count 6 = 56", "quarrels = 28", "rings 0 = 28", "rings 1 = 1", "owed 0 = 7", "owed 7 = 7", "owes 0 = 254",
        "owes 7 = 127", "mostOwed = 0", "line 0 7 = 1", "strictest 2 = -4", "freeLaw 0 7 = 0", "sets 0 3 = 2",
        "rings 0 = 0", "quarrels = 28", "count 6 = 28", "mostOwed = 0", "owed 7 = 0");
  }

  private static String lostText() {
    return BOYS + "b00;b10;b20;b31;b41;b51;b62;b72;n03;";
  }

  private static void eightLost() {
    script.run(lostText(),
        "count 0 = 8", "count 3 = 3", "count 4 = 255", "count 5 = 0", "sailor 7 3 = 1", "sailor 7 2 = 9",
        "saves 0 1 2 = 0", "may 0 1 = 0", "may 1 2 = 1", "with 0 = 0", "with 7 = 0", "lawful 0 = 1", "largest 0 = 0",
        "largest 1 = 0", "fewestBoats -1 = 0", "fewestBoats 0 = -4", "fewestBoats 7 = -4", "manned 0 0 0 -1 = 1",
        "manned 0 0 0 0 = 9", "manned 0 0 0 7 = 9", "manned 1 0 0 -1 = 0", "manned 1 0 0 0 = -4",
        "bestCrew 1 0 = -4", "bestCrew 1 1 = -4", "cheapest 0 0 = 0", "cheapest 0 1 = 0", "cheapest 1 0 = -4",
        "quarrels = 0", "strictest 1 = -4", "freeLaw 0 1 = 1", "owed 0 = 1", "owes 1 = 1", "mostOwed = 0",
        "saves 1 0 2 = 0", "rings 0 = 1", "rings 1 = 1", "line 0 1 = 1", "count 6 = 2");
  }

  private static void eightLostAreAskedOn() {
    script.run(lostText(),
        "behind 0 0 = -4", "behind 7 60 = -4", "lostIn 0 = 8", "lostIn 60 = 8", "unmanned = -4", "falls 0 0 = -4",
        "falls 1 1 = -4", "keepAshore 0 = -4", "keepAshore 60 = -4", "calm 0 = 0", "calm 60 = 0",
        "stranger 0 0 = -4", "stranger 7 1 = -4", "hire 0 0 0 = -4", "two 0 7 1 = 1", "odds 0 0 2 0 = 0",
        "odds 0 0 2 1 = 1", "odds 7 7 20 0 = 0", "odds 7 7 20 1 = 1", "mean 0 = 0", "mean 1 = 1",
        "capes 20 1 0 = 0", "capes 20 1 1 = 0", "bytes 0: 8 8", "whatIs 0 0 0 = 255", "whatIs 0 7 1 = 1023",
        "judge 0 = -4", "bytes 0: 9", "whatIs 0 0 0 = 0", "whatIs 0 7 1 = 0", "judge 0 = 0");
    script.run(lostText(),
        "boards 0 0 = -3", "boards 7 2 = -3", "boards 7 9 = -3", "text b00; = -2000", "text b79; = 1",
        "keep 0 1 0 0 = 0", "comes 0 = -2", "image = 3", "seasons 1 = 8", "restore = 3", "count 4 = 255");
  }

  private static void oneAlone() {
    script.run("p24;b02;",
        "with 0 = 0", "lawful 2 = 1", "largest 0 = 1", "largest 1 = 1", "fewestBoats -1 = 1", "fewestBoats 0 = 0",
        "manned 1 0 0 0 = 0", "manned 0 1 0 0 = 1", "manned 0 0 1 0 = 2", "manned 0 0 0 0 = 9", "manned 1 1 0 -1 = 0",
        "bestCrew 1 0 = 1", "bestCrew 1 1 = 2", "bestCrew 2 0 = -4", "cheapest 2 0 = 1", "cheapest 2 1 = 1",
        "cheapest 3 0 = -4", "quarrels = 0", "strictest 1 = 0", "strictest 2 = -4", "owed 0 = 0", "owes 0 = 0",
        "mostOwed = -4", "rings 0 = 0", "lostIn 1 = 1", "unmanned = 1", "falls 2 0 = 0", "falls 2 1 = -4",
        "keepAshore 1 = 0", "calm 1 = 9", "stranger 0 0 = -3", "hire 2 0 1 = 7", "mean 0 = 2", "mean 1 = 1");
  }
}
