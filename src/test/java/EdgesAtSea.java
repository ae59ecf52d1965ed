/** The KINDS, and promises 3 to 9: who is there, who SAVED whom, BOATS, LAW, SEA and SEASONS. */
final class EdgesAtSea {
  /** By KINDS, then FIGURES. */
  private static final String[] SKILL = {
    "0 1 2 3 4 5 6 7 8 9", "3 4 5 6 7 8 9 10 11 12", "0 0 1 1 2 2 3 3 4 4", "0 0 0 0 0 0 0 0 0 0",
    "6 8 10 12 14 16 18 20 22 24", "1 1 2 2 3 3 4 4 5 5", "0 1 2 3 4 5 6 7 8 9", "9 9 9 9 9 9 9 9 9 9"
  };
  private static final String[] REACH = {
    "3 3 3 4 4 4 5 5 5 6", "6 6 6 7 7 7 8 8 8 9", "1 1 1 1 1 1 1 1 1 1", "0 0 0 0 0 0 0 0 0 0",
    "5 5 5 6 6 6 7 7 7 8", "2 2 2 2 2 2 2 2 2 2", "3 3 3 4 4 4 5 5 5 6", "9 9 9 9 9 9 9 9 9 9"
  };
  private static final String[] PAY = {
    "2 2 2 2 2 2 2 2 2 2", "2 3 4 5 6 7 8 9 10 11", "1 1 1 1 1 1 1 1 1 1", "0 0 0 0 0 0 0 0 0 0",
    "4 6 8 10 12 14 16 18 20 22", "1 1 1 1 1 1 1 1 1 1", "3 3 3 3 3 3 3 3 3 3", "0 0 0 0 0 0 0 0 0 0"
  };
  /** In SEASONS that end with 0 and with 9. */
  private static final String[] EVEN_RISK = {
    "0 1 2 3 4 0 1 2 3 4", "0 0 0 0 0 0 0 0 0 0", "4 5 6 7 8 4 5 6 7 8", "0 0 0 0 0 0 0 0 0 0",
    "1 1 1 1 1 1 1 1 1 1", "4 5 6 7 8 4 5 6 7 8", "0 1 2 3 4 5 6 7 8 9", "0 0 0 0 0 0 0 0 0 0"
  };
  private static final String[] ODD_RISK = {
    "0 1 2 3 4 0 1 2 3 4", "0 0 0 0 0 0 0 0 0 0", "4 5 6 7 8 4 5 6 7 8", "0 0 0 0 0 0 0 0 0 0",
    "1 1 1 1 1 1 1 1 1 1", "3 4 5 6 7 3 4 5 6 7", "9 0 1 2 3 4 5 6 7 8", "0 0 0 0 0 0 0 0 0 0"
  };
  private final Check check;
  private final Script script;

  EdgesAtSea(Check check) {
    this.check = check;
    script = new Script(check);
  }

  void all() {
    kinds();
    riskBySeason();
    comes();
    savesAllTwos();
    boards();
    sets();
    byRiskAndSea();
    byReach();
    byLaw();
    inPlaceOfWhatWas();
    ofSeveralTheLeast();
    ghosts();
    asItIsThen();
    season();
  }

  private static int at(String[] table, int kind, int figure) {
    return Integer.parseInt(table[kind].split(" ")[figure]);
  }

  /** Promise 3: each KIND with each FIGURE, in SEASONS 0, 9, 10 and 999. */
  private void kinds() {
    for (int f = 0; f < 10; f++) {
      NoManMaySail x = new NoManMaySail();
      for (int k = 0; k < 8; k++) {
        x.keep(0, 1, k, f);
        x.comes(0);
      }
      for (int k = 0; k < 8; k++) {
        String lines = "sailor " + k + " ";
        script.on(x, "KIND " + k + ", FIGURE " + f, lines + "0 = " + k, lines + "1 = " + f, lines + "2 = 9",
            lines + "3 = 0", lines + "4 = " + at(SKILL, k, f), lines + "5 = " + at(EVEN_RISK, k, f),
            lines + "6 = " + at(REACH, k, f), lines + "7 = " + at(PAY, k, f));
      }
      risks(x, f, 9, ODD_RISK);
      risks(x, f, 1, EVEN_RISK);
      for (int i = 0; i < 16; i++) {
        x.seasons(60);
      }
      x.seasons(29);
      check.due("SEASON", x.count(3), 999);
      risks(x, f, 0, ODD_RISK);
    }
  }

  private void risks(NoManMaySail x, int f, int seasons, String[] table) {
    if (seasons > 0) {
      x.seasons(seasons);
    }
    for (int k = 0; k < 8; k++) {
      check.due("RISK of KIND " + k + ", FIGURE " + f + " in " + x.count(3), x.sailor(k, 5), at(table, k, f));
    }
  }

  private void riskBySeason() {
    NoManMaySail x = Ships.ship("p67;p57;");
    for (int season = 0; season < 25; season++) {
      check.due("RISK of a STRANGER in " + season, x.sailor(0, 5), (7 + season) % 10);
      check.due("RISK of a BROTHER in " + season, x.sailor(1, 5), season % 2 == 1 ? 5 : 6);
      x.seasons(1);
    }
  }

  /** Promise 5: up to eight, each as he was kept. */
  private void comes() {
    NoManMaySail x = new NoManMaySail();
    for (int p = 0; p < 8; p++) {
      script.on(x, "one more", "keep " + p + " 1 " + (7 - p) + " " + (9 - p) + " = 0", "comes " + p + " = " + p,
          "count 0 = " + (p + 1), "sailor " + p + " 0 = " + (7 - p), "sailor " + p + " 1 = " + (9 - p),
          "sailor " + p + " 2 = 9", "sailor " + p + " 3 = 0", "sailor " + (p + 1) + " 0 = -1");
    }
    script.on(x, "a ninth", "comes 0 = -2", "comes 7 = -2", "count 0 = 8");
  }

  /** Promises 4 and 6: of eight each two, either way by itself. */
  private void savesAllTwos() {
    NoManMaySail x = Ships.ship("p00;".repeat(8));
    for (int round = 0; round < 3; round++) {
      for (int p = 0; p < 8; p++) {
        for (int q = 0; q < 8; q++) {
          int was = round == 0 ? 0 : how(p, q, round - 1);
          check.due("saves " + p + " " + q, x.saves(p, q, how(p, q, round)), p == q ? -1 : was);
        }
      }
      for (int p = 0; p < 8; p++) {
        for (int q = 0; q < 8; q++) {
          check.due("saved " + p + " " + q, x.saved(p, q), p == q ? -1 : how(p, q, round));
        }
      }
    }
  }

  private static int how(int p, int q, int round) {
    return (3 * p + q + round * (p + 1)) % 4;
  }

  /** Promise 7. */
  private void boards() {
    script.run("p24;p00;p00;",
        "boards 1 9 = 9", "boards 1 0 = 9", "boards 1 1 = 0", "boards 1 2 = 1", "boards 1 9 = 2", "count 5 = 0",
        "boards 2 2 = 9", "boards 0 2 = 9", "count 5 = 5", "seasons 1 = 1", "boards 0 9 = -3", "boards 0 0 = -3",
        "boards 0 1 = -3", "boards 0 2 = -3", "boards 2 0 = 2", "sailor 1 2 = 9", "sailor 2 2 = 0");
  }

  /** Promise 8. */
  private void sets() {
    NoManMaySail x = new NoManMaySail();
    int law = 2;
    int sea = 5;
    for (int v = 0; v < 10; v++) {
      check.due("sets 0 " + v, x.sets(0, v), v <= 3 ? law : -1);
      law = v <= 3 ? v : law;
      check.due("sets 1 " + v, x.sets(1, v), sea);
      sea = v;
      script.on(x, "set to " + v, "count 1 = " + law, "count 2 = " + sea);
    }
    script.on(x, "set back", "sets 0 0 = 3", "sets 1 0 = 9", "sets 0 -1 = -1", "sets 1 -1 = -1");
  }

  /** Who is alone FALLS and is LOST, if RISK is above 0 and SEA or more. */
  private void byRiskAndSea() {
    for (int sea = 0; sea < 10; sea++) {
      for (int f = 0; f < 10; f++) {
        int risk = (f + 1) % 10;
        NoManMaySail x = Ships.ship("p6" + f + ";w" + sea + ";b02;");
        boolean lost = risk > 0 && risk >= sea;
        check.due("RISK " + risk + " by SEA " + sea, x.seasons(1), lost ? 1 : 0);
        check.due("RISK " + risk + " by SEA " + sea + ": where", x.sailor(0, 2), lost ? 9 : 2);
      }
    }
  }

  /** A BOY of RISK 4, or of RISK 8, and who is with him: by how much REACH is above RISK. */
  private void byReach() {
    String[] savers = {"p00;", "p03;", "p06;", "p10;", "p13;", "p16;", "p19;", "p70;", "p30;", "p20;", "p50;"};
    int[] of4 = {0, 1, 2, 2, 3, 3, 3, 3, 0, 0, 0};
    int[] of8 = {0, 0, 0, 0, 0, 1, 2, 2, 0, 0, 0};
    for (int i = 0; i < savers.length; i++) {
      saved("p20;" + savers[i] + "w4;", of4[i]);
      saved("p24;" + savers[i] + "w4;", of8[i]);
    }
    saved("p68;p70;w9;", 1);
    saved("p68;p19;w9;", 1);
    saved("p68;p49;w9;", 0);
  }

  private void saved(String text, int how) {
    NoManMaySail x = Ships.ship(text + "l3;b00;b10;");
    check.due(text + " LOST", x.seasons(1), how == 0 ? 1 : 0);
    check.due(text + " SAVED", x.saved(1, 0), how);
    check.due(text + " where he is", x.sailor(0, 2), how == 0 ? 9 : 0);
  }

  /** Who saved goes ASHORE, if that counts by LAW. */
  private void byLaw() {
    String[] savers = {"", "p03;", "p06;", "p13;"};
    for (int how = 1; how < 4; how++) {
      for (int law = 0; law < 4; law++) {
        NoManMaySail x = Ships.ship("p20;" + savers[how] + "w4;l" + law + ";b01;b11;n01;");
        String label = "HOW " + how + " by LAW " + law;
        boolean counts = how >= law;
        check.due(label, x.saved(1, 0), how);
        check.due(label + ": who saved is", x.sailor(1, 2), counts ? 9 : 1);
        check.due(label + ": who was saved is", x.sailor(0, 2), 1);
        check.due(label + ": MAY", x.may(0, 1), counts ? 0 : 1);
        check.due(label + ": count 6", x.count(6), counts ? 1 : 0);
      }
    }
  }

  private void inPlaceOfWhatWas() {
    script.run("p20;p03;s103;w4;b00;b10;", "seasons 1 = 0", "saved 1 0 = 1", "sailor 1 2 = 0", "may 0 1 = 1");
    script.run("p20;p13;s101;w4;b00;b10;", "seasons 1 = 0", "saved 1 0 = 3", "sailor 1 2 = 9", "may 0 1 = 0");
    // What the one who fell did once still counts; what the saver did to others does not matter.
    script.run("p20;p03;s012;w4;b00;b10;", "seasons 1 = 0", "saved 1 0 = 1", "saved 0 1 = 2", "sailor 1 2 = 9");
    script.run("p20;p03;p00;s123;s213;w4;b00;b10;b20;", "seasons 1 = 0", "saved 1 0 = 1", "sailor 1 2 = 0",
        "lawful 0 = 0");
  }

  private void ofSeveralTheLeast() {
    script.run("p03;p21;p13;p70;p21;p13;w5;b10;b20;b40;b50;", "seasons 1 = 0", "saved 2 1 = 2", "saved 5 1 = 0",
        "count 6 = 1", "sailor 2 2 = 9", "sailor 5 2 = 0");
    script.run("p22;p21;p13;w5;b00;b10;b20;", "seasons 1 = 0", "saved 2 0 = 2", "saved 2 1 = 0");
    script.run("p21;p22;p13;p16;w5;b00;b10;b20;b30;", "seasons 1 = 0", "saved 3 1 = 2", "saved 2 1 = 0");
  }

  /** GHOSTS and TILLERS never FALL; a GHOST saves nobody, a TILLER stays with whom he SAVED. */
  private void ghosts() {
    script.run("p39;p79;w0;b00;b11;", "seasons 60 = 0", "count 5 = 3");
    script.run("p20;p30;w0;b00;b10;", "seasons 1 = 1", "saved 1 0 = 0", "count 5 = 2");
    script.run("p20;p79;w0;l0;b00;b10;", "seasons 60 = 0", "saved 1 0 = 3", "count 5 = 3", "may 0 1 = 1",
        "count 6 = 1", "lawful 0 = 1");
  }

  /** By BOATS, each CREW as it is then: who saved and went ASHORE is not there in the next SEASON. */
  private void asItIsThen() {
    script.run("p20;p13;p20;p13;w4;b02;b12;b20;b30;",
        "seasons 1 = 0", "saved 1 0 = 3", "saved 3 2 = 3", "count 5 = 5", "seasons 1 = 2", "count 5 = 0",
        "count 4 = 5");
    script.run("p20;p13;p13;w4;b01;b11;b21;",
        "seasons 2 = 0", "saved 1 0 = 3", "saved 2 0 = 3", "count 5 = 1", "seasons 1 = 1", "seasons 60 = 1");
  }

  /** Promise 9: n of 1 to 60, SEASON up to 999. */
  private void season() {
    script.run("n60;".repeat(15) + "n39;", "seasons 61 = -1", "seasons 60 = 0", "count 3 = 999", "seasons 1 = -3");
    script.run("n60;".repeat(15) + "n40;", "seasons 60 = -3", "count 3 = 940", "seasons 59 = 0", "count 3 = 999",
        "seasons 60 = -3", "seasons 1 = -3", "seasons 0 = -1", "seasons 61 = -1", "count 3 = 999");
    script.run("n60;".repeat(15) + "n40;p24;b00;", "seasons 60 = -3", "count 4 = 0", "seasons 1 = 1", "count 4 = 1");
    script.run("", "seasons 1 = 0", "count 3 = 1", "seasons 60 = 0", "count 3 = 61", "seasons 0 = -1", "count 3 = 61");
  }
}
