/** Promises 26 to 35: what comes n SEASONS on. */
final class EdgesInMind {
  /** By SEA 9 a STRANGER falls in SEASONS 10, 20, ..; each time another BOSUN saves him, by LAW 1 once. */
  private static final String FIVE = "p69;p19;p19;p19;p19;p19;w9;l1;b00;b10;b20;b30;b40;b50;";
  private final Check check;
  private final Script script;

  EdgesInMind(Check check) {
    this.check = check;
    script = new Script(check);
  }

  void all() {
    sixtySeasons();
    hireForSixty();
    noSeasons();
    seasonNoMatter();
    unmanned();
    falls();
    keepAshore();
    calm();
    stranger();
    hire();
    twoByReach();
    oddsOfOneAlone();
    oddsOfStillSeasons();
  }

  /** He is LOST in SEASON 60, neither ahead of it nor behind. */
  private void sixtySeasons() {
    script.run(FIVE,
        "behind 0 59 = 0", "behind 0 60 = -4", "behind 5 49 = 0", "behind 5 50 = 9", "behind 5 60 = 9",
        "lostIn 59 = 0", "lostIn 60 = 1", "unmanned = 60", "keepAshore 59 = -4", "keepAshore 60 = 0", "calm 59 = 9",
        "calm 60 = -4", "count 3 = 0", "count 5 = 63", "seasons 59 = 0", "unmanned = 1", "lostIn 1 = 1",
        "falls 0 0 = 0", "falls 0 1 = -4", "seasons 1 = 1");
    // Of FIGURE 8 he falls in SEASONS 1, 11, .. 51 and, when all six are ASHORE, in 61.
    script.run("p68;p19;p19;p19;p19;p19;p19;w9;l1;b00;b10;b20;b30;b40;b50;b60;",
        "behind 0 60 = 0", "lostIn 60 = 0", "unmanned = -4", "keepAshore 60 = -4", "calm 60 = 9", "seasons 1 = 0",
        "count 5 = 125", "behind 0 60 = -4", "lostIn 60 = 1", "unmanned = 60", "calm 60 = -4");
  }

  /** One more saves him in SEASON 60, if he REACHES 9. */
  private void hireForSixty() {
    script.run(FIVE,
        "hire 0 9 59 = 0", "hire 0 9 60 = 1", "hire 0 8 60 = 7", "hire 0 0 60 = 7", "hire 1 9 60 = 0",
        "hire 2 0 60 = 0");
  }

  private void noSeasons() {
    script.run("p24;p19;b00;b11;",
        "behind 0 0 = 0", "behind 1 0 = 1", "lostIn 0 = 0", "keepAshore 0 = -4", "calm 0 = 0", "hire 0 0 0 = 0",
        "odds 0 0 2 0 = 1", "odds 0 0 2 1 = 1", "odds 0 0 20 1 = 1", "seasons 1 = 1", "behind 0 0 = -4",
        "lostIn 0 = 1", "keepAshore 0 = -4", "calm 0 = 0", "calm 60 = 0", "hire 0 0 0 = 0", "odds 0 0 2 0 = 0",
        "odds 0 0 2 1 = 1");
  }

  /** In mind SEASON goes above 999. */
  private void seasonNoMatter() {
    script.run("n60;".repeat(16) + "n39;p65;p50;b00;b11;",
        "sets 1 9 = 5", "count 3 = 999",
        "sailor 0 5 = 4", "falls 0 0 = -4", "behind 0 4 = 0", "behind 0 5 = -4", "lostIn 60 = 1", "unmanned = 5",
        "sets 1 4 = 9", "falls 0 0 = 0", "falls 1 0 = 1", "lostIn 1 = 2", "sets 1 6 = 4", "unmanned = 2",
        "seasons 1 = -3", "odds 0 2 3 0 = 1", "odds 0 2 3 1 = 3", "bytes 0: 0 0 8", "whatIs 0 0 1 = 32", "judge 0 = 2",
        "bytes 0: 0 0 1", "judge 0 = -4", "capes 1 0 0 = 1", "image = 999", "restore = 999");
  }

  /** Promise 28: some BOAT that has a CREW now; those that have none do not matter. */
  private void unmanned() {
    script.run("p24;p30;b00;", "unmanned = 1", "boards 1 0 = 9", "unmanned = -4", "boards 0 2 = 0", "unmanned = 1");
    script.run("p24;p24;p24;p30;b00;b10;b20;b31;", "unmanned = 3", "seasons 1 = 1", "unmanned = 2",
        "seasons 2 = 3", "unmanned = -4");
    // He goes ASHORE because he SAVED, the BOY is LOST behind it.
    script.run("p20;p13;w4;b02;b12;", "unmanned = 2", "seasons 1 = 0", "unmanned = 1", "seasons 1 = 1",
        "unmanned = -4");
  }

  /** Promise 29: in the next SEASON, by RISK of that one. */
  private void falls() {
    // A STRANGER of FIGURE 4: RISK 7 in SEASON 3, 8 in 4, 9 in 5, 0 in 6; the others REACH 8, 9.
    script.run("p64;p16;w7;n02;b00;b10;", "falls 0 0 = 0", "falls 0 1 = 1");
    script.run("p64;p16;w7;n03;b00;b10;", "falls 0 0 = 0", "falls 0 1 = 1");
    script.run("p64;p16;p79;w7;n04;b00;b10;", "falls 0 0 = 0", "falls 0 1 = -4", "boards 2 0 = 9", "falls 0 1 = 2");
    script.run("p64;p16;w7;n05;b00;b10;", "falls 0 0 = -4", "falls 0 1 = -4", "sets 1 0 = 7", "falls 0 0 = -4");
    script.run("p64;p16;w7;n01;b00;b10;", "falls 0 0 = -4", "sets 1 6 = 7", "falls 0 0 = 0");
    script.run("p00;p00;w0;b00;b10;", "falls 0 0 = -4", "falls 0 1 = -4");
    script.run("p21;p21;p13;p13;w5;b00;b10;b20;b30;", "falls 0 0 = 0", "falls 0 1 = 2", "boards 0 1 = 0",
        "falls 0 0 = 1", "falls 1 0 = 0", "falls 1 1 = -4");
  }

  /** Promise 30: fewest LOST, fewer than else, of several the least. */
  private void keepAshore() {
    // The BOSUN saves the BOY in SEASON 1; both BOY and STRANGER are LOST by SEASON 3. Without the
    // STRANGER the BOY is LOST still, without the BOY the BOSUN saves the STRANGER.
    script.run("p63;p22;p19;w6;b00;b10;b20;",
        "lostIn 1 = 0", "lostIn 2 = 1", "lostIn 3 = 2", "keepAshore 1 = -4", "keepAshore 2 = 1", "keepAshore 3 = 1");
    script.run("p24;p24;p30;b01;b12;b20;", "keepAshore 1 = 0", "boards 0 9 = 1", "keepAshore 1 = 1",
        "boards 1 9 = 2", "keepAshore 1 = -4", "keepAshore 60 = -4");
  }

  /** Promise 31: SEAS 0 to 9, the least by which nobody more is LOST. */
  private void calm() {
    for (int f = 0; f < 10; f++) {
      int risk = (f + 1) % 10;
      script.run("p6" + f + ";b00;", "calm 1 = " + (risk == 0 ? 0 : risk == 9 ? -4 : risk + 1), "calm 0 = 0",
          "count 2 = 5");
    }
    script.run("p24;b00;n01;", "calm 60 = 0");
    // By SEA 0 and 1 the SAILOR falls each SEASON: a MASTER saves him once, a TILLER always.
    script.run("p01;p40;b00;b10;l3;", "calm 1 = 0", "calm 2 = 2", "calm 60 = 2");
    script.run("p01;p70;b00;b10;l3;", "calm 60 = 0");
  }

  /** Promise 32: one ASHORE, LOST or not; a BOAT all of whom MAY sail with him. */
  private void stranger() {
    script.run("p24;p00;p00;p00;p00;b00;n01;b10;b21;b31;",
        "stranger 0 0 = 1", "stranger 0 1 = 2", "stranger 4 0 = 1", "stranger 4 1 = 2", "saves 0 3 2 = 0",
        "stranger 0 0 = 0", "stranger 0 1 = 1", "stranger 4 0 = 1", "saves 0 1 2 = 0", "stranger 0 0 = -4",
        "stranger 0 1 = -4", "stranger 1 0 = -3", "stranger 2 0 = -3", "boards 4 2 = 9", "stranger 0 0 = 2",
        "stranger 0 1 = 1", "stranger 4 1 = -3");
    script.run("p00;p00;p00;p00;b10;b21;b32;", "stranger 0 0 = 0", "boards 1 9 = 0", "stranger 0 0 = 1",
        "boards 2 9 = 1", "stranger 0 0 = 2", "boards 3 9 = 2", "stranger 0 0 = -4", "stranger 3 1 = -4");
    script.run("p00;p00;s011;b10;", "stranger 0 0 = 0", "sets 0 1 = 2", "stranger 0 0 = -4", "sets 0 0 = 1",
        "stranger 0 0 = -4", "sets 0 3 = 0", "stranger 0 0 = 0");
  }

  /** Promise 33: fewest LOST, he too; room for one more. */
  private void hire() {
    script.run("p24;p00;p00;p00;p00;p00;p00;b00;", "hire 0 9 1 = 1", "hire 0 0 1 = 7", "count 0 = 7",
        "text p00; = 1", "hire 0 9 1 = -4", "hire 2 0 0 = -4");
    // Alone by SEA 1: a SAILOR of FIGURE 5 has RISK 0 and stays; of FIGURE 6 only the safe ones do.
    script.run("w1;", "hire 0 5 60 = 0", "hire 1 6 60 = 1", "hire 2 4 1 = 1", "hire 0 0 60 = 0");
    // The BOY has RISK 7: a BOSUN REACHES that from FIGURE 3 on, a TILLER always.
    script.run("p23;b00;", "hire 0 4 1 = 1", "hire 0 6 1 = 1", "hire 0 3 1 = 1", "hire 0 2 1 = 7");
  }

  /** Promise 34: r of 0 to 9; who has less REACH than r saves nobody. */
  private void twoByReach() {
    NoManMaySail x = Ships.ship("p30;p20;p50;p00;p03;p06;p16;p70;");
    int[] reach = {0, 1, 2, 3, 4, 5, 8, 9};
    for (int a = 0; a < 8; a++) {
      for (int b = 0; b < 8; b++) {
        for (int r = 0; r < 10; r++) {
          int due = reach[b] >= r ? 1 : reach[a] >= r ? 10 : 0;
          check.due("two " + a + " " + b + " " + r, x.two(a, b, r), a == b ? -1 : due);
        }
      }
    }
  }

  /** Promise 35: he is LOST in the first SEASON that is not still. */
  private void oddsOfOneAlone() {
    NoManMaySail x = Ships.ship("p24;p30;b02;");
    for (int t = 2; t <= 20; t++) {
      long cases = 1;
      for (int n = 0; n <= 7; n++) {
        check.due("odds 0 " + n + " " + t + " above", x.odds(0, n, t, 0), 1);
        check.due("odds 0 " + n + " " + t + " below", x.odds(0, n, t, 1), cases);
        check.due("odds 1 " + n + " " + t + " above", x.odds(1, n, t, 0), 1);
        check.due("odds 1 " + n + " " + t + " below", x.odds(1, n, t, 1), 1);
        cases *= t;
      }
    }
    check.due("cases of 7 by 20", x.odds(0, 7, 20, 1), 1280000000L);
  }

  /** A still SEASON goes by: a STRANGER of FIGURE 2 has RISK 9 in SEASON 7 alone. */
  private void oddsOfStillSeasons() {
    script.run("p62;w9;b00;", "odds 0 6 20 0 = 1", "odds 0 6 20 1 = 1", "odds 0 7 20 0 = 1", "odds 0 7 20 1 = 20",
        "odds 0 7 2 1 = 2");
    // SAVED once by a BOSUN who goes ASHORE: n SEASONS without two that are not still.
    script.run("p20;p13;w4;b00;b10;", "odds 0 1 3 0 = 1", "odds 0 1 3 1 = 1", "odds 0 2 3 0 = 5",
        "odds 0 2 3 1 = 9", "odds 0 3 2 0 = 1", "odds 0 3 2 1 = 2", "odds 0 4 2 0 = 5", "odds 0 4 2 1 = 16",
        "odds 0 7 20 0 = 67", "odds 0 7 20 1 = 640000000", "odds 1 7 20 0 = 1", "odds 1 7 20 1 = 1");
  }
}
