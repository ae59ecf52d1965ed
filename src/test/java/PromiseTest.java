/** The promises of the document by number: ordinary calls, edges, and what is refused. */
public final class PromiseTest {
  private static final int LEAST = Integer.MIN_VALUE;
  private static final int MOST = Integer.MAX_VALUE;
  private static final Check check = new Check();

  public static void main(String[] args) {
    aNewObject();
    capeGoesOn();
    capeFaultsOfSigns();
    capeFaultsOfSense();
    capeRefuses();
    sailor();
    savedAndSaves();
    comes();
    boards();
    sets();
    seasonsSave();
    seasonsChooseTheLeast();
    seasonsByBoats();
    seasonsRefused();
    new WhoMaySail(check).all();
    new SeasonsOn(check).all();
    new ToldLists(check).all();
    new ShelvesHold(check).all();
    nothingIsChangedInMind();
    check.end("PromiseTest");
  }

  private static void due(String call, long got, long want) {
    check.due(call, got, want);
  }

  // Promise 1
  private static void aNewObject() {
    NoManMaySail x = new NoManMaySail();
    int[] counts = {0, 2, 5, 0, 0, 0, 0};
    for (int what = 0; what < counts.length; what++) {
      due("new: count " + what, x.count(what), counts[what]);
    }
    for (int d = 0; d < 8; d++) {
      due("new: shelf " + d, x.cost(d), -11);
    }
    due("new: no image", x.restore(), -3);
    due("new: no sailor", x.sailor(0, 0), -1);
  }

  // Promise 2
  private static void capeGoesOn() {
    NoManMaySail x = new NoManMaySail();
    due("cape of all letters", Ships.cape(x, "p04;p13;p68;s012;s101;s010;b12;b29;l3;w7;n05;b00;"), 12);
    int[] counts = {3, 3, 7, 5, 0, 3, 0};
    for (int what = 0; what < counts.length; what++) {
      due("cape told: count " + what, x.count(what), counts[what]);
    }
    due("cape told: KIND", x.sailor(2, 0), 6);
    due("cape told: FIGURE", x.sailor(2, 1), 8);
    due("cape told: SAVED anew", x.saved(0, 1), 0);
    due("cape told: SAVED", x.saved(1, 0), 1);
    due("cape told: BOAT", x.sailor(1, 2), 2);
    due("cape told: ASHORE", x.sailor(2, 2), 9);
    due("cape text stays", x.element(7, 0), 'p');
    due("cape once more goes behind what is", Ships.cape(x, "p99;"), -2000);
    due("cape once more", Ships.cape(x, "p79;"), 1);
    due("cape once more: SAILORS", x.count(0), 4);
    due("cape on what is there", Ships.cape(x, "b31;s303;"), 2);
    due("cape on what is there: BOAT", x.sailor(3, 2), 1);

    StringBuilder far = new StringBuilder();
    for (int i = 0; i < 16; i++) {
      far.append("n60;");
    }
    NoManMaySail y = new NoManMaySail();
    due("cape up to SEASON 999", Ships.cape(y, far + "n39;"), 17);
    due("cape up to SEASON 999: SEASON", y.count(3), 999);
    due("cape above SEASON 999", Ships.cape(y, "l1;n01;"), -2003);
    due("cape above SEASON 999: nothing comes", y.count(1), 2);
    NoManMaySail z = new NoManMaySail();
    due("cape of 100 bytes", Ships.cape(z, "p00;".repeat(8) + "b00;".repeat(17)), 25);
    due("cape of 98 bytes, broken at the end", Ships.cape(z, "b00;".repeat(24) + "w5"), -1098);
    due("cape of 100 bytes, broken at the end", Ships.cape(z, "b00;".repeat(24) + "s012"), -1100);

    due("cape of 100 bytes, a digit lacks", Ships.cape(z, "b00;".repeat(24) + "l2;p"), -1100);

    NoManMaySail s = Ships.ship("p24;p19;b00;b10;");
    due("cape sails", Ships.cape(s, "n01;"), 1);
    due("cape sails: SAVED", s.saved(1, 0), 2);
    due("cape sails: ASHORE", s.sailor(1, 2), 9);
  }

  private static void capeFaultsOfSigns() {
    String[] texts = {
      "", "x", ";", "P00;", " p00;", "p", "p0", "p00", "pa0;", "p0a;", "p00,", "p0;", "p000;",
      "p00;;", "p00;p", "p00;x", "s01", "s012", "s01;", "s0123", "b0;", "b000", "l;", "l22", "w",
      "w10;", "n5;", "n1", "n100;", "n-1;", "l2; ", "p/0;", "p:0;", "p0/;", "p0:;", "l2:"
    };
    int[] places = {
      0, 0, 0, 0, 0, 1, 2, 3, 1, 2, 3, 2, 3,
      4, 5, 4, 3, 4, 3, 4, 2, 3, 1, 2, 1,
      2, 2, 2, 3, 1, 3, 1, 1, 2, 2, 2
    };
    for (int i = 0; i < texts.length; i++) {
      NoManMaySail x = new NoManMaySail();
      due("signs of '" + texts[i] + "'", Ships.cape(x, texts[i]), -1000 - places[i]);
      due("signs of '" + texts[i] + "': nobody comes", x.count(0), 0);
    }
    NoManMaySail x = new NoManMaySail();
    due("signs are told ahead of sense", Ships.cape(x, "p99;b00;l"), -1009);
    due("a byte below 0 is no letter", Ships.cape(x, "" + (char) ('p' + 256 - 128) + "00;"), -1000);
    due("only lowest bits are put", Ships.cape(x, "" + (char) ('p' + 256) + "00;"), 1);
  }

  private static void capeFaultsOfSense() {
    String[] texts = {
      "p80;", "p90;", "s000;", "b00;", "b09;", "l4;", "l9;", "n00;", "n61;", "n99;",
      "p00;s000;", "p00;s011;", "p00;s101;", "p00;p00;s014;", "p00;p00;s023;", "p00;p00;s119;",
      "p00;b03;", "p00;b08;", "p00;b10;", "p00;b00;b04;l9;", "w0;l0;l3;w9;n60;l4;",
      "p00;p00;p00;p00;p00;p00;p00;p00;p00;", "p24;b00;n01;b00;", "p24;b00;w8;n01;w9;b02;"
    };
    int[] places = {
      0, 0, 0, 0, 0, 0, 0, 0, 0, 0,
      4, 4, 4, 8, 8, 8,
      4, 4, 4, 8, 16,
      32, 12, 18
    };
    for (int i = 0; i < texts.length; i++) {
      NoManMaySail x = new NoManMaySail();
      due("sense of '" + texts[i] + "'", Ships.cape(x, texts[i]), -2000 - places[i]);
      due("sense of '" + texts[i] + "': SAILORS", x.count(0), 0);
      due("sense of '" + texts[i] + "': LAW", x.count(1), 2);
      due("sense of '" + texts[i] + "': SEA", x.count(2), 5);
      due("sense of '" + texts[i] + "': SEASON", x.count(3), 0);
    }
    NoManMaySail x = Ships.ship("p24;p00;b00;n01;");
    for (int boat = 0; boat <= 8; boat++) {
      due("a LOST one goes to no BOAT " + boat, Ships.cape(x, "b0" + boat + ";"), -2000);
    }
    due("a LOST one is ASHORE", Ships.cape(x, "b09;"), 1);
    due("a LOST one is ASHORE ahead of others", Ships.cape(x, "b09;l3;b09;b19;"), 4);
    due("a LOST one is ASHORE, but no such one", Ships.cape(x, "b09;b39;"), -2004);
    due("told ASHORE he is LOST still", x.sailor(0, 3), 1);
    due("told ASHORE he is there", x.sailor(0, 2), 9);
    due("boards refuses him ASHORE, too", x.boards(0, 9), -3);
    x.sets(0, 2);
    due("he is LOST and ASHORE in one text", Ships.cape(x, "p24;b21;n01;b29;w5;"), 5);
    due("he is LOST in that text", x.sailor(2, 3), 1);
    due("a LOST one may have SAVED", Ships.cape(x, "s012;s103;"), 2);
  }

  private static void capeRefuses() {
    NoManMaySail x = new NoManMaySail();
    due("cape(-1)", x.cape(-1), -1);
    due("cape(8)", x.cape(8), -1);
    due("cape of nothing", x.cape(0), -11);
    x.keep(0, 1, 0, 0);
    due("cape of a KIND", x.cape(0), -12);
    x.row(0, 1, 3);
    due("cape of shorts", x.cape(0), -12);
    x.row(0, 2, 3);
    due("cape of ints", x.cape(0), -12);
    x.row(0, 0, 3);
    due("cape of bytes", x.cape(0), -1000);
  }

  // Promise 3
  private static void sailor() {
    NoManMaySail x = Ships.ship(Ships.ALL_KINDS + "b12;");
    int[][] all = {
      {0, 1, 2, 3, 4, 5, 6, 7},
      {4, 3, 7, 0, 5, 8, 6, 9},
      {9, 2, 9, 9, 9, 9, 9, 9},
      {0, 0, 0, 0, 0, 0, 0, 0},
      {4, 6, 3, 0, 16, 5, 6, 9},
      {4, 0, 6, 0, 1, 7, 6, 0},
      {4, 7, 1, 0, 6, 2, 5, 9},
      {2, 5, 1, 0, 14, 1, 3, 0}
    };
    for (int what = 0; what < 8; what++) {
      for (int p = 0; p < 8; p++) {
        due("sailor(" + p + ", " + what + ")", x.sailor(p, what), all[what][p]);
      }
    }
    x.seasons(1);
    due("RISK of a BROTHER in an odd SEASON", x.sailor(5, 5), 6);
    due("RISK of a STRANGER in SEASON 1", x.sailor(6, 5), 7);
    due("RISK of a BOY in SEASON 1", x.sailor(2, 5), 6);
    x.seasons(3);
    due("RISK of a STRANGER in SEASON 4", x.sailor(6, 5), 0);
    due("RISK of a BROTHER in SEASON 4", x.sailor(5, 5), 7);

    NoManMaySail y = Ships.ship("p00;p19;p29;p39;p49;p59;p69;p70;");
    int[][] others = {
      {0, 12, 4, 0, 24, 5, 9, 9}, {0, 0, 8, 0, 1, 8, 9, 0}, {3, 9, 1, 0, 8, 2, 6, 9}, {2, 11, 1, 0, 22, 1, 3, 0}
    };
    for (int i = 0; i < 4; i++) {
      for (int p = 0; p < 8; p++) {
        due("sailor(" + p + ", " + (i + 4) + ") at the ends", y.sailor(p, i + 4), others[i][p]);
      }
    }
    NoManMaySail z = Ships.ship("p24;b01;n01;");
    due("a LOST one", z.sailor(0, 3), 1);
    due("a LOST one is ASHORE", z.sailor(0, 2), 9);
    for (int bad : new int[] {-1, 8, LEAST, MOST}) {
      due("sailor(" + bad + ", 0)", x.sailor(bad, 0), -1);
      due("sailor(0, " + bad + ")", x.sailor(0, bad), -1);
    }
    due("sailor(1, 0) of one", z.sailor(1, 0), -1);
  }

  // Promises 4 and 6
  private static void savedAndSaves() {
    NoManMaySail x = Ships.ship("p00;p00;p00;");
    due("saved at first", x.saved(0, 1), 0);
    due("saves(0, 1, 3)", x.saves(0, 1, 3), 0);
    due("saved(0, 1)", x.saved(0, 1), 3);
    due("saved(1, 0)", x.saved(1, 0), 0);
    due("saves(1, 0, 1)", x.saves(1, 0, 1), 0);
    due("saves(0, 1, 2)", x.saves(0, 1, 2), 3);
    due("saves(0, 1, 0)", x.saves(0, 1, 0), 2);
    due("saves(2, 1, 2)", x.saves(2, 1, 2), 0);
    due("saved(0, 1) taken back", x.saved(0, 1), 0);
    due("saved(1, 0) by a shout", x.saved(1, 0), 1);
    due("saved(2, 1)", x.saved(2, 1), 2);
    String before = Ships.seen(x);
    for (int bad : new int[] {-1, 3, 8, LEAST, MOST}) {
      due("saved(" + bad + ", 0)", x.saved(bad, 0), -1);
      due("saved(0, " + bad + ")", x.saved(0, bad), -1);
      due("saves(" + bad + ", 0, 1)", x.saves(bad, 0, 1), -1);
      due("saves(0, " + bad + ", 1)", x.saves(0, bad, 1), -1);
    }
    for (int bad : new int[] {-1, 4, LEAST, MOST}) {
      due("saves(0, 1, " + bad + ")", x.saves(0, 1, bad), -1);
    }
    due("saved(1, 1)", x.saved(1, 1), -1);
    due("saves(1, 1, 1)", x.saves(1, 1, 1), -1);
    check.holds("refused savings change nothing", before.equals(Ships.seen(x)));
  }

  // Promise 5
  private static void comes() {
    NoManMaySail x = new NoManMaySail();
    x.keep(2, 1, 6, 4);
    x.keep(7, 1, 0, 9);
    x.row(3, 0, 1);
    due("comes(2)", x.comes(2), 0);
    due("comes(7)", x.comes(7), 1);
    due("comes: KIND", x.sailor(0, 0), 6);
    due("comes: FIGURE", x.sailor(0, 1), 4);
    due("comes: ASHORE", x.sailor(1, 2), 9);
    due("comes: not LOST", x.sailor(1, 3), 0);
    due("comes: has SAVED nobody", x.saved(1, 0), 0);
    due("comes: stays on the SHELF", x.cost(2), 6);
    due("comes(-1)", x.comes(-1), -1);
    due("comes(8)", x.comes(8), -1);
    due("comes(0)", x.comes(0), -11);
    due("comes(3)", x.comes(3), -12);
    for (int p = 2; p < 8; p++) {
      due("comes as " + p, x.comes(2), p);
    }
    due("comes as a ninth", x.comes(2), -2);
    due("comes of a ninth off nothing", x.comes(0), -11);
    due("comes of a ninth off a ROW", x.comes(3), -12);
    due("comes of a ninth off no SHELF", x.comes(8), -1);
    due("comes: eight", x.count(0), 8);
  }

  // Promise 7
  private static void boards() {
    NoManMaySail x = Ships.ship("p30;p24;b12;");
    due("boards(0, 0)", x.boards(0, 0), 9);
    due("boards(0, 2)", x.boards(0, 2), 0);
    due("boards(0, 2) again", x.boards(0, 2), 2);
    due("boards(0, 9)", x.boards(0, 9), 2);
    due("boards(0, 1)", x.boards(0, 1), 9);
    due("boards: there", x.sailor(0, 2), 1);
    x.boards(1, 0);
    x.seasons(1);
    String before = Ships.seen(x);
    for (int boat : new int[] {-1, 3, 4, 8, 10, LEAST, MOST}) {
      due("boards(0, " + boat + ")", x.boards(0, boat), -1);
      due("boards(1, " + boat + ") of a LOST one", x.boards(1, boat), -1);
    }
    for (int p : new int[] {-1, 2, 8, LEAST, MOST}) {
      due("boards(" + p + ", 0)", x.boards(p, 0), -1);
    }
    due("boards(1, 0) of a LOST one", x.boards(1, 0), -3);
    due("boards(1, 9) of a LOST one", x.boards(1, 9), -3);
    check.holds("refused boarding changes nothing", before.equals(Ships.seen(x)));
  }

  // Promise 8
  private static void sets() {
    NoManMaySail x = new NoManMaySail();
    due("sets(0, 0)", x.sets(0, 0), 2);
    due("sets(0, 3)", x.sets(0, 3), 0);
    due("sets(1, 0)", x.sets(1, 0), 5);
    due("sets(1, 9)", x.sets(1, 9), 0);
    due("LAW", x.count(1), 3);
    due("SEA", x.count(2), 9);
    for (int v : new int[] {-1, 10, LEAST, MOST}) {
      due("sets(0, " + v + ")", x.sets(0, v), -1);
      due("sets(1, " + v + ")", x.sets(1, v), -1);
    }
    due("sets(0, 4)", x.sets(0, 4), -1);
    for (int what : new int[] {-1, 2, LEAST, MOST}) {
      due("sets(" + what + ", 1)", x.sets(what, 1), -1);
    }
    due("LAW still", x.count(1), 3);
    due("SEA still", x.count(2), 9);
  }

  // Promise 9
  private static void seasonsSave() {
    // A BOY's RISK is 4 and his FIGURE (below 5); a BOSUN of FIGURE 0 REACHES 6, of 3, 7.
    saving("by a shout", "p22;p10;", 1, 0);
    saving("by a rope, 1 above", "p21;p10;", 2, 9);
    saving("by a rope, 2 above", "p20;p10;", 2, 9);
    saving("by hand, 3 above", "p20;p13;", 3, 9);
    saving("by hand, 5 above, a TILLER stays", "p20;p70;", 3, 0);
    NoManMaySail x = Ships.ship("p23;p10;b00;b10;");
    due("out of REACH", x.seasons(1), 1);
    due("out of REACH: LOST", x.sailor(0, 3), 1);
    due("out of REACH: ASHORE", x.sailor(0, 2), 9);
    due("out of REACH: the other stays", x.sailor(1, 2), 0);
    due("out of REACH: not SAVED", x.saved(1, 0), 0);

    NoManMaySail y = Ships.ship("p22;p10;s103;b00;b10;");
    due("in place of what was", y.seasons(1), 0);
    due("in place of what was: by a shout", y.saved(1, 0), 1);
    due("in place of what was: they MAY now", y.sailor(1, 2), 0);
    NoManMaySail first = Ships.ship("p10;p21;b00;b10;n01;");
    due("the first one saves", first.saved(0, 1), 2);
    due("the first one goes ASHORE", first.sailor(0, 2), 9);
    NoManMaySail z = Ships.ship("p22;p10;s013;b00;b10;");
    z.seasons(1);
    due("they MAY not, because the other SAVED him once", z.sailor(1, 2), 9);
    NoManMaySail l = Ships.ship("p21;p10;l3;b00;b10;n01;");
    due("by LAW 3 a rope does not count", l.sailor(1, 2), 0);
    NoManMaySail o = Ships.ship("p22;p10;l0;b00;b10;n01;");
    due("by LAW 0 a shout counts", o.sailor(1, 2), 9);
  }

  private static void saving(String how, String crew, int by, int saverIn) {
    NoManMaySail x = Ships.ship(crew + "w4;b00;b10;");
    due("saved " + how + ": nobody LOST", x.seasons(1), 0);
    due("saved " + how, x.saved(1, 0), by);
    due("saved " + how + ": not the other way", x.saved(0, 1), 0);
    due("saved " + how + ": he stays in the BOAT", x.sailor(0, 2), 0);
    due("saved " + how + ": who saved", x.sailor(1, 2), saverIn);
    due("saved " + how + ": SEASON", x.count(3), 1);
  }

  private static void seasonsChooseTheLeast() {
    NoManMaySail x = Ships.ship("p00;p21;p26;p10;p11;w5;b00;b10;b20;b30;b40;n01;");
    due("of alike RISK the least falls", x.saved(3, 1), 2);
    due("of alike RISK the other does not", x.saved(3, 2), 0);
    due("of alike REACH the least saves", x.sailor(3, 2), 9);
    due("of alike REACH the other stays", x.sailor(4, 2), 0);
    NoManMaySail y = Ships.ship("p22;p00;p13;b00;b10;b20;w6;n01;");
    due("the one with most REACH saves", y.saved(2, 0), 2);
    due("the one with less REACH does not", y.saved(1, 0), 0);
    due("RISK below SEA", Ships.ship("p21;b00;w6;").seasons(1), 0);
    due("RISK as SEA", Ships.ship("p21;b00;w5;").seasons(1), 1);
    due("RISK 0 by SEA 0", Ships.ship("p00;p05;p30;b00;b11;b22;w0;").seasons(60), 0);
    due("RISK 1 by SEA 0", Ships.ship("p01;b00;w0;").seasons(1), 1);
    // In SEASON 2 (even) a BROTHER of FIGURE 0 has RISK 4, in 1 one less.
    NoManMaySail z = Ships.ship("p50;b00;w4;");
    due("RISK by the number SEASON has become: 1", z.seasons(1), 0);
    due("RISK by the number SEASON has become: 2", z.seasons(1), 1);
    due("several SEASONS", Ships.ship("p24;p24;p24;b00;b10;b20;").seasons(2), 2);
    due("who is ASHORE is safe", Ships.ship("p24;w0;").seasons(60), 0);
  }

  private static void seasonsByBoats() {
    NoManMaySail x = Ships.ship("p24;p24;p24;p24;b00;b11;b22;b32;");
    due("in each BOAT one falls", x.seasons(1), 3);
    due("in each BOAT one falls: who", x.count(4), 7);
    due("LOST ones in all", x.seasons(1), 4);
    // Who is in another BOAT saves nobody.
    NoManMaySail y = Ships.ship("p24;p70;b00;b11;n01;");
    due("not from another BOAT", y.count(4), 1);
    NoManMaySail z = Ships.ship("p24;p70;b00;n01;");
    due("not from ASHORE", z.count(4), 1);
  }

  private static void seasonsRefused() {
    NoManMaySail x = new NoManMaySail();
    for (int n : new int[] {-1, 0, 61, LEAST, MOST}) {
      due("seasons(" + n + ")", x.seasons(n), -1);
    }
    for (int i = 0; i < 16; i++) {
      due("seasons(60)", x.seasons(60), 0);
    }
    due("seasons(40) at 960", x.seasons(40), -3);
    due("SEASON stays", x.count(3), 960);
    due("seasons(39) at 960", x.seasons(39), 0);
    due("seasons(1) at 999", x.seasons(1), -3);
    due("seasons(0) at 999", x.seasons(0), -1);
    due("seasons(61) at 999", x.seasons(61), -1);
    due("SEASON is 999", x.count(3), 999);
  }

  /** What is asked, and done in mind, leaves all as it was. */
  private static void nothingIsChangedInMind() {
    NoManMaySail x = Ships.ship("p24;p19;p58;p66;p79;p22;s012;s103;b00;b10;b21;b31;b42;b52;w4;");
    Ships.row(x, 0, 1, 0, 0, 8, 9);
    x.keep(1, 1, 4, 3);
    x.image();
    String before = Ships.seen(x);
    for (int n = 0; n <= 60; n += 20) {
      x.behind(0, n);
      x.lostIn(n);
      x.keepAshore(n);
      x.calm(n);
      x.hire(1, 4, n);
    }
    x.with(0);
    x.lawful(0);
    x.largest(0);
    x.fewestBoats(1);
    x.manned(2, 2, 1, 3);
    x.bestCrew(3, 1);
    x.cheapest(20, 1);
    x.strictest(3);
    x.freeLaw(0, 1);
    x.rings(1);
    x.line(0, 1);
    x.unmanned();
    x.falls(0, 1);
    x.stranger(0, 0);
    x.two(0, 1, 4);
    x.odds(0, 7, 3, 0);
    x.whatIs(0, 0, 0);
    x.whatIs(0, 0, 1);
    x.forged(0);
    x.judge(0);
    x.capes(20, 7, 0);
    x.mean(0);
    x.cost(1);
    x.toss(1);
    x.image();
    check.holds("nothing is changed in mind", before.equals(Ships.seen(x)));
    x.restore();
    check.holds("nothing of the image is changed in mind", before.equals(Ships.seen(x)));
  }
}
