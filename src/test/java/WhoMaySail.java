/** Promises 10 to 25: who may sail with whom, who owes whom. */
final class WhoMaySail {
  private static final int LEAST = Integer.MIN_VALUE;
  private static final int MOST = Integer.MAX_VALUE;
  private final Check check;

  WhoMaySail(Check check) {
    this.check = check;
  }

  void all() {
    may();
    with();
    lawful();
    largest();
    fewestBoats();
    manned();
    bestCrew();
    cheapest();
    quarrels();
    strictest();
    freeLaw();
    owedAndOwes();
    mostOwed();
    rings();
    line();
  }

  private void due(String call, long got, long want) {
    check.due(call, got, want);
  }

  /** Four SAILORS, of whom 0 and 2, 2 and 3, 3 and 1 MAY not. */
  private static NoManMaySail path() {
    return Ships.ship("p01;p02;p03;p04;s022;s323;s312;");
  }

  // Promise 10
  private void may() {
    for (int how = 0; how < 4; how++) {
      for (int law = 0; law < 4; law++) {
        boolean counts = how > 0 && how >= law;
        NoManMaySail x = Ships.ship("p00;p10;p20;s01" + how + ";s21" + how + ";l" + law + ";");
        due("may(0, 1) of HOW " + how + " by LAW " + law, x.may(0, 1), counts ? 0 : 1);
        due("may(1, 0) of HOW " + how + " by LAW " + law, x.may(1, 0), counts ? 0 : 1);
        due("may(0, 2)", x.may(0, 2), 1);
        due("owed by LAW " + law, x.owed(0), counts ? 1 : 0);
        due("owes by LAW " + law, x.owes(1), counts ? 5 : 0);
        due("count(6) by LAW " + law, x.count(6), counts ? 2 : 0);
      }
    }
    NoManMaySail g = Ships.ship("p30;p70;p00;s203;s123;");
    due("may of a GHOST", g.may(0, 2), 1);
    due("may with a GHOST", g.may(2, 0), 1);
    due("may of a TILLER", g.may(1, 2), 1);
    NoManMaySail k = Ships.ship("p10;p20;p40;p50;p60;p00;s013;s023;s033;s043;s053;");
    for (int q = 1; q < 6; q++) {
      due("may(0, " + q + ") of no GHOST", k.may(0, q), 0);
    }
    NoManMaySail lost = Ships.ship("p24;p00;b00;n01;");
    due("may of a LOST one", lost.may(0, 1), 1);
    for (int bad : new int[] {-1, 2, 8, LEAST, MOST}) {
      due("may(" + bad + ", 0)", lost.may(bad, 0), -1);
      due("may(0, " + bad + ")", lost.may(0, bad), -1);
    }
    due("may(1, 1)", lost.may(1, 1), -1);
  }

  // Promise 11
  private void with() {
    NoManMaySail x = path();
    int[] with = {2 + 8, 1 + 4, 2, 1};
    for (int p = 0; p < 4; p++) {
      due("with(" + p + ")", x.with(p), with[p]);
    }
    NoManMaySail y = Ships.ship("p24;p00;p00;b00;n01;");
    due("with, but LOST ones", y.with(1), 4);
    due("with a LOST one", y.with(0), 6);
    due("with nobody else", Ships.ship("p00;").with(0), 0);
    for (int bad : new int[] {-1, 3, 8, LEAST, MOST}) {
      due("with(" + bad + ")", y.with(bad), -1);
    }
  }

  // Promise 12
  private void lawful() {
    NoManMaySail x = Ships.ship("p00;p00;p00;p30;s012;s133;b00;b10;b21;b31;b12;");
    due("lawful(0)", x.lawful(0), 1);
    due("lawful(1)", x.lawful(1), 1);
    due("lawful(2)", x.lawful(2), 1);
    x.boards(1, 0);
    due("lawful(0) of two who MAY not", x.lawful(0), 0);
    due("lawful(2) of nobody", x.lawful(2), 1);
    x.boards(0, 9);
    due("lawful(0) of one", x.lawful(0), 1);
    x.sets(0, 3);
    x.boards(0, 0);
    due("lawful(0) by LAW 3", x.lawful(0), 1);
    for (int bad : new int[] {-1, 3, 9, LEAST, MOST}) {
      due("lawful(" + bad + ")", x.lawful(bad), -1);
    }
  }

  // Promise 13
  private void largest() {
    NoManMaySail x = path();
    due("largest(0), of several the least", x.largest(0), 3);
    due("largest(1)", x.largest(1), 2);
    NoManMaySail y = Ships.ship("p24;p00;p00;p00;s122;b00;n01;");
    due("largest(0) without LOST ones", y.largest(0), 2 + 8);
    due("largest(1) without LOST ones", y.largest(1), 2);
    NoManMaySail z = Ships.ship(Ships.ALL_KINDS);
    due("largest(0) of all", z.largest(0), 255);
    due("largest(1) of all", z.largest(1), 8);
    due("largest(1) of nobody", new NoManMaySail().largest(1), 0);
    for (int bad : new int[] {-1, 2, LEAST, MOST}) {
      due("largest(" + bad + ")", x.largest(bad), -1);
    }
  }

  // Promise 14
  private void fewestBoats() {
    NoManMaySail x = path();
    due("fewestBoats(-1)", x.fewestBoats(-1), 2);
    // 1 with 0 in BOAT 0 would cost a third one.
    int[] boats = {0, 1, 1, 0};
    for (int p = 0; p < 4; p++) {
      due("fewestBoats(" + p + ")", x.fewestBoats(p), boats[p]);
    }
    NoManMaySail y = Ships.ship("p24;p00;p00;p00;s122;s232;s313;b00;n01;");
    due("fewestBoats(-1) of a ring", y.fewestBoats(-1), 3);
    due("fewestBoats of a LOST one", y.fewestBoats(0), -4);
    for (int p = 1; p < 4; p++) {
      due("fewestBoats(" + p + ") of a ring", y.fewestBoats(p), p - 1);
    }
    NoManMaySail z = Ships.ship("p00;".repeat(8));
    for (int p = 0; p < 8; p++) {
      for (int q = 0; q < p; q++) {
        z.saves(p, q, 3);
      }
    }
    due("fewestBoats(-1) of foes", z.fewestBoats(-1), 8);
    due("fewestBoats(7) of foes", z.fewestBoats(7), 7);
    z.saves(7, 4, 0);
    due("fewestBoats(-1) of foes but two", z.fewestBoats(-1), 7);
    due("fewestBoats(7) of foes but two", z.fewestBoats(7), 4);
    due("fewestBoats(6) of foes but two", z.fewestBoats(6), 6);
    due("fewestBoats(-1) of nobody", new NoManMaySail().fewestBoats(-1), 0);
    due("fewestBoats(-1) of a LOST one alone", Ships.ship("p24;b00;n01;").fewestBoats(-1), 0);
    due("fewestBoats(-1) of one", Ships.ship("p24;").fewestBoats(-1), 1);
    for (int bad : new int[] {-2, 4, 8, LEAST, MOST}) {
      due("fewestBoats(" + bad + ")", x.fewestBoats(bad), -1);
    }
  }

  // Promise 15
  private void manned() {
    NoManMaySail x = Ships.ship("p00;p00;p00;p00;p00;");
    due("manned(1, 2, 1, -1)", x.manned(1, 2, 1, -1), 1);
    int[] seats = {0, 1, 1, 2, 9};
    for (int p = 0; p < 5; p++) {
      due("manned(1, 2, 1, " + p + ")", x.manned(1, 2, 1, p), seats[p]);
    }
    due("manned(4, 2, 0, -1) of five", x.manned(4, 2, 0, -1), 0);
    due("manned(4, 2, 0, 0) of five", x.manned(4, 2, 0, 0), -4);
    due("manned(0, 0, 4, 0)", x.manned(0, 0, 4, 0), 2);
    due("manned(0, 0, 4, 4)", x.manned(0, 0, 4, 4), 9);
    due("manned(0, 4, 0, 0)", x.manned(0, 4, 0, 0), 1);
    due("manned(4, 0, 0, 3)", x.manned(4, 0, 0, 3), 0);
    due("manned(0, 0, 0, 0)", x.manned(0, 0, 0, 0), 9);
    x.saves(0, 1, 2);
    x.saves(0, 2, 2);
    x.saves(0, 3, 2);
    x.saves(0, 4, 2);
    due("manned(2, 0, 0, 0) of a foe of all", x.manned(2, 0, 0, 0), 9);
    due("manned(2, 0, 0, 1)", x.manned(2, 0, 0, 1), 0);
    due("manned(2, 0, 0, 3)", x.manned(2, 0, 0, 3), 9);
    due("manned(2, 1, 0, 0)", x.manned(2, 1, 0, 0), 1);
    due("manned(2, 2, 0, -1)", x.manned(2, 2, 0, -1), 1);
    due("manned(3, 2, 0, -1)", x.manned(3, 2, 0, -1), 0);
    due("manned(3, 2, 0, 1)", x.manned(3, 2, 0, 1), -4);
    due("manned(3, 1, 1, 0)", x.manned(3, 1, 1, 0), 1);
    due("manned(3, 1, 1, 1)", x.manned(3, 1, 1, 1), 0);
    due("manned(3, 1, 1, 4)", x.manned(3, 1, 1, 4), 2);
    NoManMaySail y = Ships.ship("p24;p00;b00;n01;b19;");
    due("manned(1, 0, 0, 0) of a LOST one", y.manned(1, 0, 0, 0), 9);
    due("manned(1, 0, 0, 1) beside a LOST one", y.manned(1, 0, 0, 1), 0);
    due("manned(1, 1, 0, -1) beside a LOST one", y.manned(1, 1, 0, -1), 0);
    due("manned(1, 1, 0, 0) of a LOST one", y.manned(1, 1, 0, 0), -4);
    due("manned(0, 0, 0, -1) of nobody", new NoManMaySail().manned(0, 0, 0, -1), 1);
    for (int bad : new int[] {-1, 5, LEAST, MOST}) {
      due("manned(" + bad + ", 0, 0, -1)", x.manned(bad, 0, 0, -1), -1);
      due("manned(0, " + bad + ", 0, -1)", x.manned(0, bad, 0, -1), -1);
      due("manned(0, 0, " + bad + ", -1)", x.manned(0, 0, bad, -1), -1);
    }
    for (int bad : new int[] {-2, 5, 8, LEAST, MOST}) {
      due("manned(0, 0, 0, " + bad + ")", x.manned(0, 0, 0, bad), -1);
    }
  }

  // Promise 16
  private void bestCrew() {
    NoManMaySail x = Ships.ship(Ships.ALL_KINDS);
    // SKILL: 4, 6, 3, 0, 16, 5, 6, 9.
    int[] bits = {16, 144, 146, 210, 242};
    int[] skill = {16, 25, 31, 37, 42};
    for (int n = 1; n <= 5; n++) {
      due("bestCrew(" + n + ", 0)", x.bestCrew(n, 0), bits[n - 1]);
      due("bestCrew(" + n + ", 1)", x.bestCrew(n, 1), skill[n - 1]);
    }
    x.saves(4, 1, 3);
    due("bestCrew(3, 0), LAWFUL", x.bestCrew(3, 0), 208);
    x.saves(6, 4, 3);
    due("bestCrew(3, 0), LAWFUL again", x.bestCrew(3, 0), 128 + 16 + 32);
    due("bestCrew(3, 1), LAWFUL again", x.bestCrew(3, 1), 30);
    NoManMaySail y = Ships.ship("p00;p10;p24;p00;s012;b20;n01;");
    due("bestCrew(1, 0) without LOST ones", y.bestCrew(1, 0), 2);
    due("bestCrew(2, 0)", y.bestCrew(2, 0), 2 + 8);
    due("bestCrew(3, 0) of foes", y.bestCrew(3, 0), -4);
    due("bestCrew(3, 1) of foes", y.bestCrew(3, 1), -4);
    due("bestCrew(1, 0) of several", Ships.ship("p30;p00;").bestCrew(1, 0), 1);
    due("bestCrew(1, 1) of no SKILL", Ships.ship("p30;p00;").bestCrew(1, 1), 0);
    for (int bad : new int[] {-1, 0, 6, LEAST, MOST}) {
      due("bestCrew(" + bad + ", 0)", x.bestCrew(bad, 0), -1);
    }
    for (int bad : new int[] {-1, 2, LEAST, MOST}) {
      due("bestCrew(1, " + bad + ")", x.bestCrew(1, bad), -1);
    }
  }

  // Promise 17
  private void cheapest() {
    NoManMaySail x = Ships.ship(Ships.ALL_KINDS);
    // SKILL: 4, 6, 3, 0, 16, 5, 6, 9; PAY: 2, 5, 1, 0, 14, 1, 3, 0.
    int[][] due = {{0, 0, 0}, {1, 128, 0}, {9, 128, 0}, {10, 132, 1}, {13, 160, 1}, {15, 164, 2}, {18, 161, 3},
        {49, 247, 26}, {50, -4, -4}, {60, -4, -4}};
    for (int[] row : due) {
      due("cheapest(" + row[0] + ", 0)", x.cheapest(row[0], 0), row[1]);
      due("cheapest(" + row[0] + ", 1)", x.cheapest(row[0], 1), row[2]);
    }
    NoManMaySail y = Ships.ship("p09;p19;p24;p09;s012;b20;n01;");
    due("cheapest(13, 0), LAWFUL", y.cheapest(13, 0), 9);
    due("cheapest(19, 0), LAWFUL", y.cheapest(19, 0), 2 + 8);
    due("cheapest(19, 1), LAWFUL", y.cheapest(19, 1), 13);
    due("cheapest(22, 0), LAWFUL, not LOST", y.cheapest(22, 0), -4);
    due("cheapest(2, 0), not LOST", y.cheapest(2, 0), 1);
    for (int bad : new int[] {-1, 61, LEAST, MOST}) {
      due("cheapest(" + bad + ", 0)", x.cheapest(bad, 0), -1);
    }
    for (int bad : new int[] {-1, 2, LEAST, MOST}) {
      due("cheapest(0, " + bad + ")", x.cheapest(0, bad), -1);
    }
  }

  // Promise 18
  private void quarrels() {
    due("quarrels of a path", path().quarrels(), 3);
    NoManMaySail x = Ships.ship("p00;p00;p24;p30;s012;s103;s202;s303;");
    due("quarrels, a two once, GHOSTS none", x.quarrels(), 2);
    x.boards(2, 0);
    x.seasons(1);
    due("quarrels without LOST ones", x.quarrels(), 1);
    x.sets(0, 3);
    due("quarrels by LAW 3", x.quarrels(), 1);
    x.saves(1, 0, 2);
    due("quarrels by LAW 3, but ropes", x.quarrels(), 0);
  }

  // Promise 19
  private void strictest() {
    NoManMaySail x = Ships.ship("p00;p00;p00;p00;s011;s122;s233;");
    int[] due = {0, 0, 2, -4, -4, -4, -4, -4};
    for (int n = 1; n <= 8; n++) {
      due("strictest(" + n + ")", x.strictest(n), due[n - 1]);
    }
    x.saves(2, 3, 2);
    due("strictest(4) of ropes", x.strictest(4), 3);
    due("strictest leaves LAW", x.count(1), 2);
    x.saves(1, 2, 1);
    x.saves(2, 3, 1);
    due("strictest(4) of shouts", x.strictest(4), 2);
    NoManMaySail y = Ships.ship("p24;p00;b00;n01;");
    due("strictest(2) without LOST ones", y.strictest(2), -4);
    due("strictest(1) without LOST ones", y.strictest(1), 0);
    due("strictest(1) of nobody", new NoManMaySail().strictest(1), -4);
    for (int bad : new int[] {-1, 0, 9, LEAST, MOST}) {
      due("strictest(" + bad + ")", x.strictest(bad), -1);
    }
  }

  // Promise 20
  private void freeLaw() {
    int[] due = {4, 2, 1, 0};
    for (int how = 0; how < 4; how++) {
      NoManMaySail x = Ships.ship("p00;p00;p30;p70;s01" + how + ";s02" + how + ";s30" + how + ";");
      due("freeLaw(0, 1) of HOW " + how, x.freeLaw(0, 1), due[how]);
      due("freeLaw(1, 0) of HOW " + how, x.freeLaw(1, 0), due[how]);
      due("freeLaw(0, 2) of a GHOST", x.freeLaw(0, 2), 4);
      due("freeLaw(0, 3) of a TILLER", x.freeLaw(0, 3), 4);
      x.saves(1, 0, 2);
      due("freeLaw(0, 1) of both ways", x.freeLaw(0, 1), Math.min(due[how], 1));
    }
    NoManMaySail x = path();
    for (int bad : new int[] {-1, 4, 8, LEAST, MOST}) {
      due("freeLaw(" + bad + ", 0)", x.freeLaw(bad, 0), -1);
      due("freeLaw(0, " + bad + ")", x.freeLaw(0, bad), -1);
    }
    due("freeLaw(1, 1)", x.freeLaw(1, 1), -1);
  }

  // Promises 21 and 23
  private void owedAndOwes() {
    NoManMaySail x = Ships.ship("p00;p30;p24;p00;s012;s023;s031;s122;s322;");
    int[] owed = {2, 1, 0, 1};
    int[] owes = {0, 1, 11, 0};
    for (int p = 0; p < 4; p++) {
      due("owed(" + p + ")", x.owed(p), owed[p]);
      due("owes(" + p + ")", x.owes(p), owes[p]);
    }
    due("count(6)", x.count(6), 4);
    x.boards(2, 0);
    x.seasons(1);
    due("owed(0), a LOST one too", x.owed(0), 2);
    due("owes(2) of a LOST one", x.owes(2), 11);
    x.sets(0, 1);
    due("owed(0) by LAW 1", x.owed(0), 3);
    due("owes(3) by LAW 1", x.owes(3), 1);
    for (int bad : new int[] {-1, 4, 8, LEAST, MOST}) {
      due("owed(" + bad + ")", x.owed(bad), -1);
      due("owes(" + bad + ")", x.owes(bad), -1);
    }
  }

  // Promise 22
  private void mostOwed() {
    NoManMaySail x = Ships.ship("p00;p00;p00;p00;s011;s122;s202;s213;s302;s312;");
    due("mostOwed, of several the least", x.mostOwed(), 2);
    x.sets(0, 3);
    due("mostOwed by LAW 3", x.mostOwed(), 2);
    x.saves(2, 1, 2);
    due("mostOwed of nobody", x.mostOwed(), -4);
    x.sets(0, 0);
    x.saves(0, 2, 1);
    x.saves(0, 3, 1);
    due("mostOwed by LAW 0", x.mostOwed(), 0);
  }

  // Promise 24
  private void rings() {
    NoManMaySail x = Ships.ship("p00;p30;p00;p00;s012;s101;s312;s133;s322;s233;");
    due("rings(0)", x.rings(0), 2);
    due("rings(1)", x.rings(1), 13);
    x.sets(0, 1);
    due("rings(0) by LAW 1", x.rings(0), 3);
    due("rings(1) by LAW 1", x.rings(1), 1);
    x.sets(0, 3);
    due("rings(0) by LAW 3", x.rings(0), 0);
    due("rings(1) by LAW 3", x.rings(1), -4);
    for (int bad : new int[] {-1, 2, LEAST, MOST}) {
      due("rings(" + bad + ")", x.rings(bad), -1);
    }
  }

  // Promise 25
  private void line() {
    NoManMaySail x = Ships.ship("p00;p00;p00;p00;p00;p00;p00;p00;s702;s012;s122;s232;s342;s452;s562;");
    due("line(7, 6)", x.line(7, 6), 1);
    due("line(6, 7)", x.line(6, 7), 0);
    due("line(0, 1)", x.line(0, 1), 1);
    due("line(1, 0)", x.line(1, 0), 0);
    due("line(3, 5)", x.line(3, 5), 1);
    x.saves(2, 3, 1);
    due("line(7, 6) broken", x.line(7, 6), 0);
    due("line(7, 2)", x.line(7, 2), 1);
    x.sets(0, 1);
    due("line(7, 6) by LAW 1", x.line(7, 6), 1);
    x.saves(6, 0, 3);
    due("line(6, 5) by a ring", x.line(6, 5), 1);
    due("line(6, 7) by a ring", x.line(6, 7), 0);
    for (int bad : new int[] {-1, 8, LEAST, MOST}) {
      due("line(" + bad + ", 0)", x.line(bad, 0), -1);
      due("line(0, " + bad + ")", x.line(0, bad), -1);
    }
    due("line(1, 1)", x.line(1, 1), -1);
  }
}
