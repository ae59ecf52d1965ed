import java.util.Arrays;

/** Promises 36 to 43: told lists, CAPES, THE IMAGE, what is told. */
final class EdgesOfLists {
  private static final String[] SORTS = {"bytes", "shorts", "ints"};
  private static final String[] SKIPPED = {"-128", "-32768", "LEAST"};
  private static final int[] SEEDS = {0, Integer.MIN_VALUE, 1, -2147483647, -1, Integer.MAX_VALUE, 2};
  /** The DRAWS below 4 from each seed on; the sign's bit of a seed does not matter. */
  private static final String[] DRAWS = {
    "00012311221032330101", "00012311221032330101", "22133323021300131312", "22133323021300131312",
    "11221203021130123231", "11221203021130123231", "01321301231303303223"
  };
  private final Check check;
  private final Script script;

  EdgesOfLists(Check check) {
    this.check = check;
    script = new Script(check);
  }

  void all() {
    whatIsEnds();
    whatIsHundred();
    whatIsOfFalseNumbers();
    mean();
    forgedPairs();
    forgedHundred();
    judgeEnds();
    judgeHundred();
    draws();
    drawsPutIntoBoats();
    lostOnesDrawNothing();
    fiveSeasons();
    image();
    count();
  }

  /** Promise 36: KINDS 0 to 7 and FIGURES 0 to 9, from 0 SEASONS on. */
  private void whatIsEnds() {
    // By SEA 9 a STRANGER is LOST in SEASON 9, if he has FIGURE 0, in 10, if he has 9.
    script.run("p60;w9;b00;", "bytes 0: 0 0 0 0 0 0 0 0 0 8", "whatIs 0 0 1 = 1", "whatIs 0 0 0 = 64",
        "bytes 0: 0 0 0 0 0 0 0 0 0 0 8", "whatIs 0 0 1 = 512", "whatIs 0 0 0 = 0", "bytes 0: 0 8",
        "whatIs 0 0 1 = 256", "bytes 0: 8", "whatIs 0 0 1 = 0", "bytes 0: 0", "whatIs 0 0 1 = 1023",
        "whatIs 0 0 0 = 255", "bytes 0:", "whatIs 0 0 1 = 1023", "whatIs 0 0 0 = 255");
    // With a BOY of RISK 4: a GHOST and a TILLER stay, who saves goes ASHORE, BOY and BROTHER are LOST.
    script.run("p20;p09;w1;b02;b12;", "bytes 0: 2 2 2 2 2", "whatIs 0 1 0 = 136", "bytes 0: 2 9 9 9 9",
        "whatIs 0 1 0 = 83", "bytes 0: 9", "whatIs 0 1 0 = 0", "bytes 0: 1", "whatIs 0 1 0 = 0");
  }

  private void whatIsHundred() {
    int[] cells = new int[100];
    Arrays.fill(cells, 1);
    NoManMaySail x = Ships.ship("p30;p24;b01;b12;");
    Ships.row(x, 0, 0, cells);
    script.on(x, "99 SEASONS in BOAT 1", "whatIs 0 0 0 = 191", "put 0 99 2 = 0", "whatIs 0 0 0 = 0",
        "put 0 99 -128 = 0", "whatIs 0 0 0 = 191", "put 0 99 8 = 0", "whatIs 0 0 0 = 0");
    Arrays.fill(cells, 8);
    cells[0] = 2;
    Ships.row(x, 0, 1, cells);
    script.on(x, "99 SEASONS LOST", "whatIs 0 1 0 = 100", "put 0 99 2 = 0", "whatIs 0 1 0 = 0",
        "put 0 99 -32768 = 0", "whatIs 0 1 0 = 100", "put 0 0 8 = 0", "whatIs 0 1 0 = 0");
  }

  private void whatIsOfFalseNumbers() {
    for (int sort = 0; sort < 3; sort++) {
      for (String told : new String[] {"-1", "1", "2", "3", "7", "8", "9", "10", "127"}) {
        script.run("p30;b00;", SORTS[sort] + " 0: " + told, "whatIs 0 0 0 = 0", "whatIs 0 0 1 = 0");
      }
      script.run("p30;b00;", SORTS[sort] + " 0: " + SKIPPED[sort], "whatIs 0 0 0 = 255", "whatIs 0 0 1 = 1023",
          "judge 0 = -4");
    }
    script.run("p30;b00;", "ints 0: MOST", "whatIs 0 0 0 = 0", "ints 0: -2147483647", "whatIs 0 0 0 = 0",
        "ints 0: -128", "whatIs 0 0 0 = 0", "ints 0: -32768", "whatIs 0 0 0 = 0", "shorts 0: -128",
        "whatIs 0 0 0 = 0", "shorts 0: 32767", "whatIs 0 0 0 = 0", "bytes 0: -127", "whatIs 0 0 0 = 0");
  }

  /** Promise 37: of all not LOST, in least terms. */
  private void mean() {
    script.run("p49;p49;p49;p49;p49;p49;p49;p49;", "mean 0 = 24", "mean 1 = 1");
    script.run("p00;p00;p00;p00;p00;p00;p00;p01;", "mean 0 = 1", "mean 1 = 8");
    script.run("p00;p00;p00;p00;p00;p00;p00;p06;", "mean 0 = 3", "mean 1 = 4");
    script.run("p00;p07;", "mean 0 = 7", "mean 1 = 2", "text p02;p00; = 2", "mean 0 = 9", "mean 1 = 4");
    script.run("p30;", "mean 0 = 0", "mean 1 = 1");
    script.run("p29;p05;p05;b00;", "mean 0 = 14", "mean 1 = 3", "seasons 1 = 1", "mean 0 = 5", "mean 1 = 1");
  }

  /** Promise 38: a pair that is SAVED and counts, first whom it is by. */
  private void forgedPairs() {
    for (int sort = 0; sort < 3; sort++) {
      String row = SORTS[sort] + " 0:";
      script.run("p00;p30;p24;s012;s123;s201;b20;n01;",
          row, "forged 0 = -4", row + " 0", "forged 0 = -13", row + " 0 1", "forged 0 = -4", row + " 1 0",
          "forged 0 = 0", row + " 1 2", "forged 0 = -4", row + " 2 0", "forged 0 = 0", row + " 0 1 2 0 1 0",
          "forged 0 = 1", row + " 0 1 0 1 1 1", "forged 0 = 2", row + " 0 1 3 0", "forged 0 = 1", row + " 0 1 0 3",
          "forged 0 = 1", row + " 0 1 -1 0", "forged 0 = 1", row + " 0 1 0 -1", "forged 0 = 1", row + " 0 0",
          "forged 0 = 0", row + " 1 0 1", "forged 0 = -13", row + " " + SKIPPED[sort] + " 1", "forged 0 = 0",
          row + " 0 " + SKIPPED[sort], "forged 0 = 0", row + " 0 127", "forged 0 = 0", row + " 0 1 0 9",
          "forged 0 = 1");
    }
    script.run("p00;p00;s013;", "ints 0: MOST 1", "forged 0 = 0", "ints 0: 0 MOST", "forged 0 = 0",
        "ints 0: 0 536870913", "forged 0 = 0", "ints 0: 536870912 1", "forged 0 = 0", "ints 0: 0 1", "forged 0 = -4",
        "sets 0 3 = 2", "forged 0 = -4", "saves 0 1 2 = 3", "forged 0 = 0", "sets 0 0 = 3", "forged 0 = -4",
        "saves 0 1 0 = 2", "forged 0 = 0");
  }

  private void forgedHundred() {
    int[] cells = new int[100];
    for (int i = 1; i < 100; i += 2) {
      cells[i] = 1;
    }
    NoManMaySail x = Ships.ship("p00;p00;s012;");
    Ships.row(x, 0, 0, cells);
    script.on(x, "fifty pairs", "forged 0 = -4", "put 0 99 0 = 0", "forged 0 = 49", "put 0 98 1 = 0", "forged 0 = 49",
        "put 0 97 0 = 0", "forged 0 = 48");
    Ships.row(x, 1, 0, Arrays.copyOf(cells, 99));
    script.on(x, "forty-nine pairs and a half", "forged 1 = -13");
  }

  /** Promise 39: from 0 SEASONS on; the least number of the SORT is skipped. */
  private void judgeEnds() {
    for (int sort = 0; sort < 3; sort++) {
      String row = SORTS[sort] + " 0:";
      script.run("p24;p24;p30;b00;b11;w8;",
          row, "judge 0 = -4", row + " 0", "judge 0 = -4", row + " 0 2", "judge 0 = -4", row + " 0 1", "judge 0 = 1",
          row + " 1 2", "judge 0 = 0", row + " -1", "judge 0 = 0", row + " 0 3", "judge 0 = 1", row + " 0 2 2 2 1",
          "judge 0 = 4", row + " " + SKIPPED[sort] + " " + SKIPPED[sort] + " 1", "judge 0 = 2",
          row + " " + SKIPPED[sort] + " 2", "judge 0 = -4", "seasons 1 = 2", row + " 2", "judge 0 = -4", row + " 0",
          "judge 0 = 0");
    }
    script.run("", "ints 0: MOST", "judge 0 = 0", "ints 0: -2147483647", "judge 0 = 0", "ints 0: -128", "judge 0 = 0",
        "shorts 0: -128", "judge 0 = 0", "shorts 0: -32767", "judge 0 = 0", "bytes 0: -127", "judge 0 = 0",
        "ints 0: 0 256", "judge 0 = 1");
  }

  private void judgeHundred() {
    int[] cells = new int[100];
    NoManMaySail x = Ships.ship("p69;w9;b00;");
    Arrays.fill(cells, 10, 100, 1);
    Ships.row(x, 0, 2, cells);
    script.on(x, "LOST from SEASON 10 on", "judge 0 = -4", "put 0 9 1 = 0", "judge 0 = 9", "put 0 9 0 = 0",
        "put 0 10 0 = 0", "judge 0 = 10", "put 0 10 1 = 0", "put 0 99 0 = 0", "judge 0 = 99", "put 0 99 LEAST = 0",
        "judge 0 = -4");
  }

  /** Promise 40: of one and of two GHOSTS how many are in BOATS, for n of 1 to 20. */
  private void draws() {
    for (int i = 0; i < SEEDS.length; i++) {
      NoManMaySail one = Ships.ship("p30;");
      NoManMaySail two = Ships.ship("p30;p30;b02;");
      int aboard = 0;
      for (int drawn = 1; drawn <= 20; drawn++) {
        aboard += DRAWS[i].charAt(drawn - 1) == '3' ? 0 : 1;
        check.due("capes " + drawn + " " + SEEDS[i] + " 1", one.capes(drawn, SEEDS[i], 1), aboard);
        check.due("capes " + drawn + " " + SEEDS[i] + " 0", one.capes(drawn, SEEDS[i], 0), 0);
        if (drawn % 2 == 0) {
          check.due("capes of two " + drawn / 2 + " " + SEEDS[i], two.capes(drawn / 2, SEEDS[i], 1), aboard);
        }
      }
    }
  }

  /** A BOY and a TILLER: the BOY is LOST in a BOAT that he does not share. */
  private void drawsPutIntoBoats() {
    int[] lost = {0, 1, 2, 2, 2, 3, 3, 3, 4, 5};
    int[] aboard = {2, 3, 3, 5, 7, 8, 9, 9, 10, 11};
    for (int n = 1; n <= 10; n++) {
      script.run("p24;p70;b01;", "capes " + n + " 0 0 = " + lost[n - 1], "capes " + n + " 0 1 = " + aboard[n - 1],
          "capes " + n + " LEAST 0 = " + lost[n - 1], "capes " + n + " LEAST 1 = " + aboard[n - 1]);
    }
  }

  private void lostOnesDrawNothing() {
    script.run("p24;p24;p70;b00;n01;", "capes 10 0 0 = 5", "capes 10 0 1 = 11", "count 4 = 1");
    script.run("p24;p24;p70;b10;n01;", "capes 10 0 0 = 5", "capes 10 0 1 = 11", "count 4 = 2");
    script.run("p24;p70;p24;b20;n01;", "capes 10 0 0 = 5", "capes 10 0 1 = 11", "capes 1 0 0 = 0", "count 4 = 4");
  }

  /** From seed 0 the first DRAW is 0: by SEA 9 he is LOST in SEASON 5, not in 6. */
  private void fiveSeasons() {
    script.run("p64;w9;", "capes 1 0 0 = 1", "capes 1 0 1 = 0", "seasons 1 = 0", "capes 1 0 0 = 1");
    script.run("p63;w9;", "capes 1 0 0 = 0", "capes 1 0 1 = 1", "seasons 1 = 0", "capes 1 0 0 = 1");
  }

  /** Promises 41 and 42: the last IMAGE, as often as it is asked for. */
  private void image() {
    script.run("p24;p30;b02;", "restore = -3", "image = 0", "seasons 3 = 1", "restore = 0", "count 4 = 0",
        "sailor 0 2 = 2", "seasons 4 = 1", "image = 4", "restore = 4", "count 4 = 1", "text p79;s012;l1;w9; = 4",
        "seasons 2 = 1", "restore = 4", "count 0 = 2", "count 1 = 2", "count 2 = 5", "saved 0 1 = 0", "sailor 2 0 = -1",
        "restore = 4");
    // SHELVES are as they are: what was kept behind THE IMAGE is there, what was taken away is not.
    script.run("", "keep 0 1 4 9 = 0", "bytes 1: 7", "image = 0", "keep 0 0 0 0 = 0", "keep 2 1 1 9 = 0",
        "put 1 0 9 = 0", "restore = 0", "cost 0 = -11", "cost 2 = 11", "element 1 0 = 9", "comes 2 = 0",
        "restore = 0", "comes 2 = 0");
    script.run("p00;p00;s013;", "image = 0", "saves 0 1 1 = 3", "saves 1 0 2 = 0", "restore = 0", "saved 0 1 = 3",
        "saved 1 0 = 0", "text p00; = 1", "saved 2 0 = 0", "saved 0 2 = 0");
  }

  /** Promise 43. */
  private void count() {
    script.run("p24;p24;p24;p24;p24;p24;p24;p24;b00;b71;", "count 5 = 129", "seasons 1 = 2", "count 4 = 129",
        "count 5 = 0", "boards 6 2 = 9", "count 5 = 64", "boards 6 9 = 2", "count 5 = 0", "count 7 = -1",
        "count -1 = -1", "count LEAST = -1", "count MOST = -1");
  }
}
