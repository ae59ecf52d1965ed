/** Promises 26 to 35: seasons on. */
final class SeasonsOn {
  private static final int LEAST = Integer.MIN_VALUE;
  private static final int MOST = Integer.MAX_VALUE;
  private static final int[] NO_SEASONS = {-1, 61, LEAST, MOST};
  private final Check check;

  SeasonsOn(Check check) {
    this.check = check;
  }

  void all() {
    behind();
    lostIn();
    seasonIsNoMatter();
    unmanned();
    falls();
    keepAshore();
    calm();
    stranger();
    hire();
    two();
    odds();
  }

  private void due(String call, long got, long want) {
    check.due(call, got, want);
  }

  // Promise 26
  private void behind() {
    // The BOSUN saves the BOY once by a rope and goes ASHORE; then the BOY is LOST.
    NoManMaySail x = Ships.ship("p21;p10;p30;b00;b10;b22;");
    due("behind(0, 0)", x.behind(0, 0), 0);
    due("behind(1, 0)", x.behind(1, 0), 0);
    due("behind(0, 1)", x.behind(0, 1), 0);
    due("behind(1, 1)", x.behind(1, 1), 9);
    due("behind(0, 2)", x.behind(0, 2), -4);
    due("behind(1, 2)", x.behind(1, 2), 9);
    due("behind(2, 60)", x.behind(2, 60), 2);
    x.seasons(2);
    due("behind(0, 0) of a LOST one", x.behind(0, 0), -4);
    for (int n : NO_SEASONS) {
      due("behind(0, " + n + ")", x.behind(0, n), -1);
    }
    for (int p : new int[] {-1, 3, 8, LEAST, MOST}) {
      due("behind(" + p + ", 0)", x.behind(p, 0), -1);
    }
  }

  // Promise 27
  private void lostIn() {
    NoManMaySail x = Ships.ship("p24;p24;p24;p24;b00;b10;b20;b31;");
    int[] lost = {0, 2, 3, 4, 4};
    for (int n = 0; n < lost.length; n++) {
      due("lostIn(" + n + ")", x.lostIn(n), lost[n]);
    }
    due("lostIn(60)", x.lostIn(60), 4);
    x.seasons(1);
    due("lostIn(0) counts who is LOST", x.lostIn(0), 2);
    for (int n : NO_SEASONS) {
      due("lostIn(" + n + ")", x.lostIn(n), -1);
    }
  }

  private void seasonIsNoMatter() {
    NoManMaySail x = Ships.ship("n60;".repeat(16) + "n39;p69;p50;b00;b11;w9;");
    due("SEASON 999: RISK", x.sailor(0, 5), 8);
    due("SEASON 999: falls(0, 0)", x.falls(0, 0), 0);
    due("SEASON 999: lostIn(0)", x.lostIn(0), 0);
    due("SEASON 999: lostIn(1)", x.lostIn(1), 1);
    due("SEASON 999: behind(0, 60)", x.behind(0, 60), -4);
    due("SEASON 999: behind(1, 60)", x.behind(1, 60), 1);
    due("SEASON 999: unmanned", x.unmanned(), 1);
    due("SEASON 999: keepAshore(60)", x.keepAshore(60), 0);
    due("SEASON 999: calm(60)", x.calm(60), -4);
    due("SEASON 999: odds(0, 7, 2, 1)", x.odds(0, 7, 2, 1), 2);
    x.sets(1, 4);
    due("SEASON 1000 is even", x.falls(1, 0), 1);
    due("SEASON is 999 still", x.count(3), 999);
  }

  // Promise 28
  private void unmanned() {
    due("unmanned of nobody", new NoManMaySail().unmanned(), -4);
    due("unmanned ASHORE", Ships.ship("p24;").unmanned(), -4);
    due("unmanned at once", Ships.ship("p24;b02;").unmanned(), 1);
    due("unmanned of two", Ships.ship("p24;p24;b01;b11;").unmanned(), 2);
    due("unmanned the first BOAT", Ships.ship("p24;p24;p24;b01;b11;b20;").unmanned(), 1);
    due("unmanned never", Ships.ship("p30;p70;b00;b11;").unmanned(), -4);
    // A STRANGER of FIGURE 0 has RISK 9 first in SEASON 9; at SEASON 10 that lies 9 on.
    due("unmanned late", Ships.ship("p60;w9;n10;b00;").unmanned(), 9);
    due("unmanned beside one who stays", Ships.ship("p30;p24;b00;b10;").unmanned(), -4);
    // By SEA 9 he falls each tenth SEASON; a BOSUN each time saves him by a shout and goes ASHORE.
    String bosuns = "p19;p19;p19;p19;p19;";
    NoManMaySail last = Ships.ship(bosuns + "p69;b00;b10;b20;b30;b40;b50;w9;l1;");
    due("unmanned at the last", last.unmanned(), 60);
    due("LOST ahead of the last", last.lostIn(59), 0);
    due("LOST at the last", last.lostIn(60), 1);
    NoManMaySail beyond = Ships.ship(bosuns + "p19;p68;b00;b10;b20;b30;b40;b50;b60;w9;l1;");
    due("unmanned behind the last", beyond.unmanned(), -4);
    due("LOST behind the last", beyond.lostIn(60), 0);
    // By hand saved, the BOY stays; the BOSUN goes ASHORE, so the BOAT is empty behind two.
    due("unmanned by one ASHORE and one LOST", Ships.ship("p20;p19;w4;b00;b10;").unmanned(), 2);
  }

  // Promise 29
  private void falls() {
    NoManMaySail x = Ships.ship("p24;p19;p28;p19;p23;p00;p50;b00;b10;b20;b30;b41;b51;b62;w4;");
    due("falls(0, 0)", x.falls(0, 0), 0);
    due("falls(0, 1)", x.falls(0, 1), 1);
    due("falls(1, 0)", x.falls(1, 0), 4);
    due("falls(1, 1), out of REACH", x.falls(1, 1), -4);
    due("falls(2, 0) in an odd SEASON", x.falls(2, 0), -4);
    due("falls(2, 1) of nobody", x.falls(2, 1), -4);
    x.boards(0, 9);
    due("falls(0, 0) of the other", x.falls(0, 0), 2);
    x.sets(1, 8);
    due("falls(0, 0) by SEA 8", x.falls(0, 0), -4);
    due("falls(0, 1) by SEA 8", x.falls(0, 1), -4);
    x.sets(1, 4);
    x.seasons(1);
    due("falls(2, 0) in an even SEASON", x.falls(2, 0), 6);
    // A BROTHER of FIGURE 1 has RISK 4 in SEASON 1, 5 in SEASON 2; the SAILOR REACHES 4.
    NoManMaySail y = Ships.ship("p51;p03;b00;b10;w4;l3;");
    due("falls(0, 1) in an odd SEASON", y.falls(0, 1), 1);
    y.seasons(1);
    due("falls(0, 0) in an even SEASON", y.falls(0, 0), 0);
    due("falls(0, 1) in an even SEASON", y.falls(0, 1), -4);
    for (int bad : new int[] {-1, 3, 9, LEAST, MOST}) {
      due("falls(" + bad + ", 0)", x.falls(bad, 0), -1);
    }
    for (int bad : new int[] {-1, 2, LEAST, MOST}) {
      due("falls(0, " + bad + ")", x.falls(0, bad), -1);
    }
  }

  // Promise 30
  private void keepAshore() {
    NoManMaySail x = Ships.ship("p30;p24;p24;b00;b11;b22;");
    due("keepAshore(1), of several the least", x.keepAshore(1), 1);
    due("keepAshore(0)", x.keepAshore(0), -4);
    due("keepAshore of nobody LOST", Ships.ship("p30;b00;").keepAshore(60), -4);
    due("keepAshore of who is ASHORE", Ships.ship("p24;p30;b10;").keepAshore(9), -4);
    // The BOSUN saves one BOY once and goes ASHORE; behind two SEASONS one BOY is LOST either way.
    NoManMaySail y = Ships.ship("p21;p20;p10;w4;b00;b10;b20;");
    due("keepAshore: LOST else", y.lostIn(2), 1);
    due("keepAshore(2), not fewer than else", y.keepAshore(2), -4);
    due("keepAshore: LOST else behind 3", y.lostIn(3), 2);
    due("keepAshore(3)", y.keepAshore(3), 0);
    due("keepAshore leaves BOATS", y.sailor(0, 2), 0);
    NoManMaySail z = Ships.ship("p24;b00;n01;p24;b11;");
    due("keepAshore beside a LOST one", z.keepAshore(1), 1);
    for (int n : NO_SEASONS) {
      due("keepAshore(" + n + ")", x.keepAshore(n), -1);
    }
  }

  // Promise 31
  private void calm() {
    due("calm(1) of RISK 4", Ships.ship("p20;b00;").calm(1), 5);
    due("calm(0)", Ships.ship("p20;b00;").calm(0), 0);
    due("calm(60) of nobody", new NoManMaySail().calm(60), 0);
    due("calm(60) of GHOSTS", Ships.ship("p30;b00;").calm(60), 0);
    due("calm(1) of RISK 9", Ships.ship("p68;b00;").calm(1), -4);
    due("calm(1) of RISK 8", Ships.ship("p67;b00;").calm(1), 9);
    due("calm(2) of RISK 9", Ships.ship("p67;b00;").calm(2), -4);
    NoManMaySail x = Ships.ship("p24;b00;n01;p20;b10;");
    due("calm(1) beside a LOST one", x.calm(1), 5);
    due("calm leaves SEA", x.count(2), 5);
    for (int n : NO_SEASONS) {
      due("calm(" + n + ")", x.calm(n), -1);
    }
  }

  // Promise 32
  private void stranger() {
    NoManMaySail x = Ships.ship("p00;p00;p00;p00;p00;p00;b10;b21;b31;b42;b52;");
    due("stranger(0, 0), of several the least", x.stranger(0, 0), 1);
    due("stranger(0, 1)", x.stranger(0, 1), 2);
    x.saves(3, 0, 2);
    due("stranger(0, 0), all of whom MAY", x.stranger(0, 0), 2);
    x.saves(0, 5, 2);
    due("stranger(0, 0) of one", x.stranger(0, 0), 0);
    due("stranger(0, 1) of one", x.stranger(0, 1), 1);
    x.saves(0, 1, 3);
    due("stranger(0, 0) of none", x.stranger(0, 0), -4);
    due("stranger(0, 1) of none", x.stranger(0, 1), -4);
    x.boards(1, 9);
    due("stranger(0, 0) and an empty BOAT", x.stranger(0, 0), -4);
    due("stranger(2, 0) in a BOAT", x.stranger(2, 0), -3);
    due("stranger(2, 1) in a BOAT", x.stranger(2, 1), -3);
    due("stranger(2, 2) in a BOAT", x.stranger(2, 2), -1);
    due("stranger(2, -1) in a BOAT", x.stranger(2, -1), -1);
    NoManMaySail y = Ships.ship("p24;p30;b00;b12;n01;");
    due("stranger(0, 0) of a LOST one", y.stranger(0, 0), 2);
    for (int bad : new int[] {-1, 6, 8, LEAST, MOST}) {
      due("stranger(" + bad + ", 0)", x.stranger(bad, 0), -1);
    }
    for (int bad : new int[] {-1, 2, LEAST, MOST}) {
      due("stranger(0, " + bad + ")", x.stranger(0, bad), -1);
    }
  }

  // Promise 33
  private void hire() {
    NoManMaySail x = Ships.ship("p24;b00;");
    due("hire(0, 9, 1): a BOSUN REACHES 9", x.hire(0, 9, 1), 1);
    due("hire(0, 0, 1): a TILLER REACHES 9", x.hire(0, 0, 1), 7);
    due("hire(1, 9, 1): no matter who", x.hire(1, 0, 1), 0);
    due("hire(0, 9, 0)", x.hire(0, 9, 0), 0);
    // A SAILOR of FIGURE 9 has RISK 4: LOST himself.
    due("hire(0, 9, 1) of a sea 4, he too", Ships.ship("w4;").hire(0, 9, 1), 1);
    due("hire(2, 9, 1) of a sea 5", Ships.ship("w5;").hire(2, 9, 1), 0);
    due("hire leaves SAILORS", x.count(0), 1);
    NoManMaySail seven = Ships.ship("p24;".repeat(7) + "b00;b10;b20;b30;b40;b50;b60;n07;");
    due("hire beside seven LOST ones", seven.hire(0, 0, 0), 0);
    due("hire beside seven LOST ones, SEA 5", seven.hire(0, 4, 1), 0);
    seven.sets(1, 4);
    due("hire beside seven LOST ones, SEA 4", seven.hire(0, 4, 1), 1);
    NoManMaySail y = Ships.ship(Ships.ALL_KINDS);
    due("hire of a ninth", y.hire(0, 0, 0), -4);
    due("hire of a ninth, n 61", y.hire(0, 0, 61), -1);
    due("hire of a ninth, f 10", y.hire(0, 10, 0), -1);
    due("hire of a ninth, boat 9", y.hire(9, 0, 0), -1);
    for (int n : NO_SEASONS) {
      due("hire(0, 0, " + n + ")", x.hire(0, 0, n), -1);
    }
    for (int bad : new int[] {-1, 10, LEAST, MOST}) {
      due("hire(0, " + bad + ", 0)", x.hire(0, bad, 0), -1);
    }
    for (int bad : new int[] {-1, 3, 9, LEAST, MOST}) {
      due("hire(" + bad + ", 0, 0)", x.hire(bad, 0, 0), -1);
    }
  }

  // Promise 34
  private void two() {
    // REACH: a SAILOR of FIGURE 3 has 4, a BOY 1, a TILLER 9.
    NoManMaySail x = Ships.ship("p03;p20;p70;p24;b30;n01;");
    due("two(0, 2, 4): both can", x.two(0, 2, 4), 1);
    due("two(0, 1, 4): the one can", x.two(0, 1, 4), 10);
    due("two(1, 0, 4): the other can", x.two(1, 0, 4), 1);
    due("two(0, 1, 5): neither can", x.two(0, 1, 5), 0);
    due("two(0, 1, 1): both can", x.two(0, 1, 1), 1);
    due("two(2, 0, 9)", x.two(2, 0, 9), 10);
    due("two(2, 0, 5)", x.two(2, 0, 5), 10);
    due("two(0, 2, 5)", x.two(0, 2, 5), 1);
    due("two(0, 1, 0)", x.two(0, 1, 0), 1);
    due("two(3, 1, 1) of a LOST one", x.two(3, 1, 1), 1);
    for (int bad : new int[] {-1, 4, 8, LEAST, MOST}) {
      due("two(" + bad + ", 0, 0)", x.two(bad, 0, 0), -1);
      due("two(0, " + bad + ", 0)", x.two(0, bad, 0), -1);
    }
    for (int bad : new int[] {-1, 10, LEAST, MOST}) {
      due("two(0, 1, " + bad + ")", x.two(0, 1, bad), -1);
    }
    due("two(1, 1, 0)", x.two(1, 1, 0), -1);
  }

  // Promise 35
  private void odds() {
    NoManMaySail boy = Ships.ship("p24;p30;b00;");
    fraction("a BOY behind 0", boy, 0, 0, 2, 1, 1);
    fraction("a BOY behind 1", boy, 0, 1, 3, 1, 3);
    fraction("a BOY behind 2", boy, 0, 2, 3, 1, 9);
    fraction("a BOY behind 7", boy, 0, 7, 20, 1, 1280000000);
    fraction("a GHOST behind 7", boy, 1, 7, 20, 1, 1);
    boy.seasons(1);
    fraction("a LOST BOY", boy, 0, 0, 2, 0, 1);
    fraction("a LOST BOY behind 3", boy, 0, 3, 2, 0, 1);
    // Saved once, LOST the second time.
    NoManMaySail once = Ships.ship("p21;p10;b00;b10;");
    fraction("saved once behind 2 by 2", once, 0, 2, 2, 3, 4);
    fraction("saved once behind 2 by 3", once, 0, 2, 3, 5, 9);
    fraction("saved once behind 3 by 2", once, 0, 3, 2, 1, 2);
    fraction("saved once behind 3 by 3", once, 0, 3, 3, 7, 27);
    // A STRANGER of FIGURE 9 has RISK 5 first in SEASON 6, be those before still or not.
    NoManMaySail stranger = Ships.ship("p69;b00;");
    fraction("a STRANGER behind 5", stranger, 0, 5, 20, 1, 1);
    fraction("a STRANGER behind 6", stranger, 0, 6, 20, 1, 20);
    fraction("a STRANGER behind 7", stranger, 0, 7, 20, 1, 400);
    for (int part = 0; part < 2; part++) {
      for (int bad : new int[] {-1, 1, 8, LEAST, MOST}) {
        due("odds(" + bad + ", ..)", stranger.odds(bad, 1, 2, part), 1000000001L);
      }
      for (int bad : new int[] {-1, 8, LEAST, MOST}) {
        due("odds(0, " + bad + ", ..)", stranger.odds(0, bad, 2, part), 1000000001L);
      }
      for (int bad : new int[] {-1, 0, 1, 21, LEAST, MOST}) {
        due("odds(0, 1, " + bad + ", ..)", stranger.odds(0, 1, bad, part), 1000000001L);
      }
    }
    for (int bad : new int[] {-1, 2, LEAST, MOST}) {
      due("odds(0, 1, 2, " + bad + ")", stranger.odds(0, 1, 2, bad), 1000000001L);
    }
  }

  private void fraction(String whose, NoManMaySail x, int p, int n, int t, long above, long below) {
    due("odds of " + whose + ", above", x.odds(p, n, t, 0), above);
    due("odds of " + whose + ", below", x.odds(p, n, t, 1), below);
  }
}
