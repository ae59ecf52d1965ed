/** Promises 10 to 25: who may with whom, who owes whom. */
final class EdgesOfCrews {
  private final Check check;
  private final Script script;

  EdgesOfCrews(Check check) {
    this.check = check;
    script = new Script(check);
  }

  void all() {
    mayByKinds();
    countsByLaw();
    lawfulBoats();
    leastBits();
    fewestBoatsFirst();
    mannedFirst();
    mannedByEmptyBoats();
    bestCrewToTheMost();
    cheapestToTheSkill();
    strictestLaws();
    owedAndOwes();
    rings();
    lines();
  }

  /** Promise 10: a GHOST, or one under it, on either side. */
  private void mayByKinds() {
    for (int k = 0; k < 8; k++) {
      for (int l = 0; l < 8; l++) {
        NoManMaySail x = Ships.ship("p" + k + "0;p" + l + "0;s013;b01;b11;");
        boolean may = k == 3 || k == 7 || l == 3 || l == 7;
        String whose = "KINDS " + k + " and " + l;
        script.on(x, whose, "may 0 1 = " + (may ? 1 : 0), "may 1 0 = " + (may ? 1 : 0),
            "with 0 = " + (may ? 2 : 0), "with 1 = " + (may ? 1 : 0), "lawful 1 = " + (may ? 1 : 0),
            "largest 0 = " + (may ? 3 : 1), "fewestBoats -1 = " + (may ? 1 : 2), "quarrels = " + (may ? 0 : 1),
            "strictest 2 = " + (may ? 0 : -4), "freeLaw 0 1 = " + (may ? 4 : 0), "manned 2 0 0 -1 = " + (may ? 1 : 0));
        // What counts, counts of GHOSTS as well.
        script.on(x, whose, "owed 0 = 1", "owes 1 = 1", "count 6 = 1", "mostOwed = 0", "line 0 1 = 1");
      }
    }
  }

  /** LAW 0 is as LAW 1; a saving counts by HOW of LAW or more. */
  private void countsByLaw() {
    for (int law = 0; law < 4; law++) {
      for (int how = 0; how < 4; how++) {
        int counts = how >= Math.max(law, 1) ? 1 : 0;
        int lest = 1 - counts;
        script.run("p00;p00;s10" + how + ";l" + law + ";b00;b10;",
            "may 0 1 = " + lest, "with 0 = " + 2 * lest, "lawful 0 = " + lest, "quarrels = " + counts,
            "owed 1 = " + counts, "owed 0 = 0", "owes 0 = " + 2 * counts, "owes 1 = 0", "count 6 = " + counts,
            "line 1 0 = " + counts, "line 0 1 = 0", "rings 0 = 0", "mostOwed = " + (counts == 1 ? 1 : -4),
            "saves 0 1 " + how + " = 0", "rings 0 = " + counts, "rings 1 = " + (counts == 1 ? 1 : -4),
            "bytes 0: 1 0", "forged 0 = " + (counts == 1 ? -4 : 0), "bestCrew 2 0 = " + (counts == 1 ? -4 : 3));
      }
    }
  }

  /** Promise 12: those in it alone, none and one too. */
  private void lawfulBoats() {
    script.run("p00;p00;p00;s012;s122;",
        "lawful 0 = 1", "lawful 1 = 1", "lawful 2 = 1", "boards 0 0 = 9", "boards 1 1 = 9", "boards 2 2 = 9",
        "lawful 0 = 1", "lawful 1 = 1", "lawful 2 = 1", "boards 2 0 = 2", "lawful 0 = 1", "boards 1 0 = 1",
        "lawful 0 = 0", "lawful 1 = 1", "boards 0 9 = 0", "lawful 0 = 0", "boards 2 9 = 0", "lawful 0 = 1");
  }

  /** Promise 13: of several the least bits. */
  private void leastBits() {
    script.run("p00;p00;p30;s012;", "largest 0 = 5", "largest 1 = 2");
    script.run("p00;p00;p00;p00;s012;s122;s232;s302;", "largest 0 = 5", "largest 1 = 2", "fewestBoats -1 = 2");
    script.run("p00;p00;p00;p00;p00;s012;s022;", "largest 0 = 30", "saves 3 0 2 = 0", "largest 0 = 30",
        "largest 1 = 4", "saves 4 1 2 = 0", "largest 0 = 14", "largest 1 = 3");
  }

  /** Promise 14: the fewest, then by SAILORS the least BOAT that still lets all be LAWFUL. */
  private void fewestBoatsFirst() {
    // 2 and 4 could sail with 0, but then 3 would need a third BOAT.
    script.run("p00;p00;p00;p00;p00;s132;s342;s322;s013;",
        "fewestBoats -1 = 2", "fewestBoats 0 = 0", "fewestBoats 1 = 1", "fewestBoats 2 = 1", "fewestBoats 3 = 0",
        "fewestBoats 4 = 1", "sets 0 3 = 2", "fewestBoats -1 = 2", "fewestBoats 2 = 0", "fewestBoats 4 = 0");
    script.run("p24;p00;p00;s122;b00;n01;", "fewestBoats -1 = 2", "fewestBoats 0 = -4", "fewestBoats 1 = 0",
        "fewestBoats 2 = 1");
  }

  /** Promise 15: by SAILORS BOAT 0, if it can be, else 1, 2, else ASHORE. */
  private void mannedFirst() {
    script.run("p00;p00;p00;p00;p00;p00;p00;p00;",
        "manned 1 1 1 0 = 0", "manned 1 1 1 1 = 1", "manned 1 1 1 2 = 2", "manned 1 1 1 3 = 9", "manned 1 1 1 7 = 9",
        "manned 4 4 0 7 = 1", "manned 4 4 1 7 = -4", "manned 4 4 1 -1 = 0", "manned 0 0 0 7 = 9", "manned 0 4 4 0 = 1",
        "manned 0 4 4 4 = 2", "manned 2 0 2 1 = 0", "manned 2 0 2 2 = 2", "manned 2 0 2 4 = 9");
    // 0 MAY only with 3: in BOAT 0 of two he needs him, and 1 is the first of BOAT 1.
    script.run("p00;p00;p00;p00;s012;s022;",
        "manned 2 2 0 0 = 0", "manned 2 2 0 1 = 1", "manned 2 2 0 2 = 1", "manned 2 2 0 3 = 0", "manned 3 1 0 0 = 1",
        "manned 3 1 0 1 = 0", "manned 3 0 0 0 = 9", "manned 4 0 0 0 = -4", "manned 4 0 0 -1 = 0",
        "manned 2 1 1 0 = 0", "manned 2 1 1 1 = 1", "manned 2 1 1 2 = 2", "manned 2 1 1 3 = 0");
  }

  private void mannedByEmptyBoats() {
    script.run("p24;p00;b00;n01;",
        "manned 0 0 0 -1 = 1", "manned 0 0 0 0 = 9", "manned 0 0 0 1 = 9", "manned 1 0 0 -1 = 1", "manned 1 0 0 0 = 9",
        "manned 1 0 0 1 = 0", "manned 0 0 1 1 = 2", "manned 2 0 0 -1 = 0", "manned 2 0 0 0 = -4",
        "manned 1 0 1 1 = -4", "manned 0 1 1 -1 = 0");
  }

  /** Promise 16: crews of one to five. */
  private void bestCrewToTheMost() {
    script.run("p49;p49;p49;p49;p49;p49;p49;p49;",
        "bestCrew 1 0 = 1", "bestCrew 1 1 = 24", "bestCrew 5 0 = 31", "bestCrew 5 1 = 120", "bestCrew 6 0 = -1");
    script.run("p30;p30;p30;", "bestCrew 2 0 = 3", "bestCrew 2 1 = 0", "bestCrew 3 1 = 0", "bestCrew 4 0 = -4");
    script.run("p01;p02;p03;p04;p05;", "bestCrew 5 0 = 31", "bestCrew 5 1 = 15", "bestCrew 4 0 = 30",
        "saves 0 1 2 = 0", "bestCrew 5 0 = -4", "bestCrew 5 1 = -4", "bestCrew 4 0 = 30", "bestCrew 4 1 = 14",
        "saves 4 3 2 = 0", "bestCrew 4 0 = -4", "bestCrew 3 0 = 22", "bestCrew 3 1 = 10");
  }

  /** Promise 17: SKILL of v or more, v of 0 to 60. */
  private void cheapestToTheSkill() {
    script.run("p49;p49;p19;", "cheapest 60 0 = 7", "cheapest 60 1 = 55", "cheapest 49 0 = 7", "cheapest 48 0 = 3",
        "cheapest 48 1 = 44", "cheapest 0 0 = 0", "cheapest 0 1 = 0");
    script.run("p49;p49;p18;", "cheapest 60 0 = -4", "cheapest 60 1 = -4", "cheapest 59 0 = 7", "cheapest 59 1 = 54");
    script.run("p09;p09;p79;p39;", "cheapest 9 0 = 4", "cheapest 9 1 = 0", "cheapest 10 0 = 5", "cheapest 10 1 = 2",
        "cheapest 18 0 = 5", "cheapest 19 0 = 7", "cheapest 27 0 = 7", "cheapest 28 0 = -4", "saves 1 0 3 = 0",
        "cheapest 18 0 = 5", "cheapest 19 0 = -4", "cheapest 19 1 = -4");
  }

  /** Promises 19 and 20: LAWS 0 to 3, the least told. */
  private void strictestLaws() {
    int[] least = {0, 2, 3, -4};
    int[] free = {4, 2, 1, 0};
    for (int how = 0; how < 4; how++) {
      for (int law = 0; law < 4; law++) {
        script.run("p00;p00;s01" + how + ";l" + law + ";",
            "strictest 1 = 0", "strictest 2 = " + (how == 0 ? 0 : least[how]), "strictest 3 = -4",
            "freeLaw 0 1 = " + free[how], "freeLaw 1 0 = " + free[how], "count 1 = " + law);
      }
    }
    script.run("p00;p00;p00;p00;p00;p00;p00;p00;s671;", "strictest 7 = 0", "strictest 8 = 2", "saves 0 1 2 = 0",
        "strictest 7 = 2", "strictest 8 = 3", "strictest 6 = 0", "saves 0 1 3 = 2", "strictest 8 = -4");
  }

  /** Promises 21 to 23. */
  private void owedAndOwes() {
    NoManMaySail x = Ships.ship("p00;".repeat(8));
    for (int q = 0; q < 7; q++) {
      check.due("saves 7 " + q, x.saves(7, q, 2), 0);
      script.on(x, "7 saves " + q, "owed 7 = " + (q + 1), "owes " + q + " = 128", "mostOwed = 7");
    }
    for (int p = 1; p < 8; p++) {
      x.saves(p, 0, 3);
    }
    script.on(x, "all saved 0", "owes 0 = 254", "owed 7 = 7", "owed 1 = 1", "sets 0 3 = 2", "owed 7 = 1",
        "owes 0 = 254", "mostOwed = 1", "saves 1 0 2 = 3", "mostOwed = 2", "owes 0 = 252", "saves 6 1 3 = 0",
        "mostOwed = 6", "saves 3 1 3 = 0", "mostOwed = 3");
  }

  /** Promise 24: the first by the lesser, then by the other. */
  private void rings() {
    script.run("p00;p00;p00;p00;p00;p00;p00;p00;s672;s762;",
        "rings 0 = 1", "rings 1 = 67", "saves 5 7 2 = 0", "rings 0 = 1", "saves 7 5 2 = 0", "rings 0 = 2",
        "rings 1 = 57", "saves 1 2 3 = 0", "saves 2 1 3 = 0", "rings 1 = 12", "saves 7 0 2 = 0", "saves 0 7 2 = 0",
        "rings 0 = 4", "rings 1 = 7", "saves 0 7 1 = 2", "rings 0 = 3", "rings 1 = 12", "saves 1 0 2 = 0",
        "saves 0 1 2 = 0", "rings 1 = 1", "rings 0 = 4");
  }

  /** Promise 25: one link, seven links, a ring; none back. */
  private void lines() {
    NoManMaySail x = Ships.ship("p00;".repeat(8));
    for (int p = 7; p > 0; p--) {
      x.saves(p, p - 1, 2);
    }
    for (int p = 0; p < 8; p++) {
      for (int q = 0; q < 8; q++) {
        check.due("line " + p + " " + q, x.line(p, q), p == q ? -1 : p > q ? 1 : 0);
      }
    }
    x.saves(0, 7, 2);
    for (int p = 0; p < 8; p++) {
      for (int q = 0; q < 8; q++) {
        check.due("line " + p + " " + q + " of a ring", x.line(p, q), p == q ? -1 : 1);
      }
    }
    script.run("p24;p24;p00;s012;s122;b10;n01;", "count 4 = 2", "line 0 2 = 1", "saves 1 2 1 = 2", "line 0 2 = 0");
  }
}
