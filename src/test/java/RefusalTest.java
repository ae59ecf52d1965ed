/**
 * REFUSALS: of several the first one as they are told at the call, -1 ahead of -4; and what is
 * refused changes nothing, THE IMAGE and the SORT of a ROW neither.
 */
public final class RefusalTest {
  private static final String EIGHT = "p04;p04;p04;p04;p04;p04;p04;p04;";
  /** A LOST one, two in BOAT 1, one ASHORE. */
  private static final String CREW = "p24;p04;p00;p00;b00;b11;b21;n01;";
  private static final Check check = new Check();
  private static final Script script = new Script(check);

  public static void main(String[] args) {
    ofTheCape();
    ofCrews();
    ofSeasonsOn();
    ofToldLists();
    ofShelves();
    ofCopies();
    theImageIsKept();
    theSortIsKept();
    check.end("RefusalTest");
  }

  private static void ofTheCape() {
    script.run(EIGHT + "b00;",
        "comes 0 = -11", "bytes 0: 1", "comes 0 = -12", "keep 0 1 0 0 = 0", "comes 0 = -2", "comes 8 = -1",
        "comes -1 = -1");
    script.run(CREW,
        "boards 0 3 = -1", "boards 0 -1 = -1", "boards 0 8 = -1", "boards 0 10 = -1", "boards 0 9 = -3",
        "boards 0 0 = -3", "boards 0 2 = -3", "boards 4 0 = -1", "sailor 4 8 = -1", "saves 4 4 4 = -1",
        "saves 1 1 4 = -1", "saves 1 1 1 = -1", "saves 1 2 4 = -1");
    script.run("n60;".repeat(16) + "n38;",
        "seasons 60 = -3", "seasons 2 = -3", "seasons 61 = -1", "seasons 0 = -1", "seasons MOST = -1",
        "seasons LEAST = -1", "seasons 1 = 0", "seasons 1 = -3", "seasons 61 = -1", "count 3 = 999");
    script.run("",
        "cape 0 = -11", "shorts 0: 112 48 48 59", "cape 0 = -12", "ints 0: 112 48 48 59", "cape 0 = -12",
        "keep 0 1 0 0 = 0", "cape 0 = -12", "text p90;x = -1004", "text p90;p0 = -1006", "text p00;p90;l = -1009",
        "text p00;b08;s009;l4; = -2004", "text p00;s009;b08;l4; = -2004", "text l4;p90; = -2000");
  }

  private static void ofCrews() {
    script.run(CREW,
        "fewestBoats 4 = -1", "fewestBoats -2 = -1", "fewestBoats 0 = -4", "manned 4 4 4 4 = -1",
        "manned 4 4 4 -2 = -1", "manned 5 4 4 0 = -1", "manned 4 4 4 0 = -4", "bestCrew 6 0 = -1",
        "bestCrew 5 2 = -1", "bestCrew 5 -1 = -1", "bestCrew 5 0 = -4", "cheapest 61 0 = -1", "cheapest 60 2 = -1",
        "cheapest 60 1 = -4", "strictest 9 = -1", "strictest 8 = -4", "rings 2 = -1", "rings 1 = -4");
    script.run("p00;", "may 0 0 = -1", "may 1 1 = -1", "freeLaw 0 0 = -1", "line 0 0 = -1", "line 1 1 = -1");
  }

  private static void ofSeasonsOn() {
    script.run(CREW,
        "behind 0 61 = -1", "behind 0 -1 = -1", "behind 0 0 = -4", "falls 3 0 = -1", "falls 0 2 = -1",
        "falls 0 0 = -4", "keepAshore 61 = -1", "keepAshore 60 = -4", "stranger 1 2 = -1", "stranger 4 0 = -1",
        "stranger 1 0 = -3", "stranger 1 1 = -3", "two 4 4 10 = -1", "two 1 1 0 = -1",
        "odds 0 8 2 0 = 1000000001", "odds 4 0 2 0 = 1000000001", "odds 0 0 1 2 = 1000000001");
    // Alone he is in a BOAT: that is told ahead of that there is no CREW for him.
    script.run("p00;b00;", "stranger 0 0 = -3", "boards 0 9 = 0", "stranger 0 0 = -4", "stranger 0 2 = -1");
    script.run(EIGHT,
        "hire 0 0 0 = -4", "hire 3 0 0 = -1", "hire -1 0 0 = -1", "hire 0 10 0 = -1", "hire 0 -1 0 = -1",
        "hire 0 0 61 = -1", "hire 0 0 -1 = -1", "hire 9 0 0 = -1");
    script.run(CREW + "l1;w9;", "calm 61 = -1", "capes 21 0 2 = -1", "mean 2 = 1000000001", "restore = -3");
  }

  private static void ofToldLists() {
    script.run(CREW,
        "whatIs 0 0 0 = -11", "whatIs 0 4 0 = -1", "whatIs 0 0 2 = -1", "whatIs 8 0 0 = -1", "forged 0 = -11",
        "judge 0 = -11", "keep 0 1 0 0 = 0", "whatIs 0 0 0 = -12", "whatIs 0 4 0 = -1", "whatIs 0 0 2 = -1",
        "forged 0 = -12", "judge 0 = -12", "bytes 0: 9", "whatIs 0 4 0 = -1", "whatIs 0 0 2 = -1", "forged 0 = -13",
        "bytes 0: 0 0 0", "forged 0 = -13", "bytes 0: 0 0 0 0", "forged 0 = 0");
  }

  private static void ofShelves() {
    script.run("",
        "keep 8 0 0 0 = -1", "keep 8 2 8 10 = -1", "keep 0 2 0 0 = -1", "keep 0 1 8 10 = -1", "row 8 0 -1 = -1",
        "row 0 3 -1 = -1", "row 0 -1 -1 = -1", "row 0 3 101 = -1", "row 0 0 101 = -1", "row 0 0 -1 = -14",
        "row 0 2 LEAST = -14", "put 8 -1 0 = -1", "put 0 -1 0 = -11", "put 0 0 0 = -11", "keep 0 1 0 0 = 0",
        "put 0 -1 0 = -12", "put 0 0 0 = -12", "row 0 0 1 = 0", "put 0 -1 0 = -13", "put 0 1 0 = -13",
        "element 8 -1 = throws.IllegalArgumentException", "element -1 0 = throws.IllegalArgumentException",
        "element 0 1 = throws.IllegalStateException", "element 1 -1 = throws.IllegalStateException",
        "keep 1 1 0 0 = 0", "element 1 0 = throws.IllegalStateException", "toss 8 = -1", "toss 2 = -11",
        "toss 0 = -12", "toss 1 = -15", "cost 8 = -1", "cost 2 = -11", "cost 0 = -12", "cost 1 = 2");
  }

  private static void ofCopies() {
    script.run("",
        "bytes 0: 1 2", "shorts 1: 3 4", "keep 2 1 0 0 = 0",
        "copy 8 0 3 0 1 = -1", "copy 3 0 8 0 1 = -1", "copy 8 0 2 0 1 = -1", "copy 2 0 8 0 1 = -1",
        "copy 8 -1 0 -1 -1 = -1", "copy 0 -1 -1 -1 -1 = -1", "copy 3 0 2 0 1 = -11", "copy 2 0 3 0 1 = -11",
        "copy 3 -1 0 0 0 = -11", "copy 0 -1 3 0 0 = -11", "copy 3 0 3 0 0 = -11", "copy 0 -1 2 0 -1 = -12",
        "copy 2 -1 0 0 -1 = -12", "copy 0 0 1 0 1 = -12", "copy 1 0 0 0 1 = -12", "copy 0 5 1 5 -1 = -12",
        "copy 0 0 1 0 0 = -12", "copy 0 0 0 0 -1 = -13", "copy 0 -1 0 0 0 = -13", "copy 0 0 0 -1 0 = -13",
        "copy 0 3 0 0 0 = -13", "copy 0 0 0 3 0 = -13", "copy 0 0 0 0 3 = -13", "copy 0 1 0 0 2 = -13",
        "copy 0 0 0 1 2 = -13", "copy 0 1 0 1 MOST = -13", "copy 0 MOST 0 0 1 = -13", "copy 0 0 0 MOST 1 = -13",
        "copy 0 0 0 0 0 = 0", "copy 0 0 0 0 2 = 2");
  }

  private static void theImageIsKept() {
    NoManMaySail x = Ships.ship(CREW + "s132;w4;l1;");
    x.image();
    String then = Ships.seenAtSea(x);
    Ships.cape(x, "p79;b32;s123;w0;l3;n02;");
    script.on(x, "behind an image",
        "text p00;p00;p00;p00; = -2012", "text p00;b00 = -1007", "comes 7 = -12", "saves 0 0 1 = -1",
        "boards 0 0 = -3", "sets 0 4 = -1", "sets 1 10 = -1", "seasons 61 = -1", "behind 0 61 = -1",
        "stranger 1 2 = -1", "hire 0 10 0 = -1", "capes 0 0 0 = -1", "keep 7 1 8 0 = -1", "row 7 0 101 = -1",
        "row 7 0 -1 = -14", "put 7 100 0 = -13", "restore = 1");
    check.holds("THE IMAGE is as it was", then.equals(Ships.seenAtSea(x)));
  }

  /** By what an element keeps: its lowest 8, 16 or 32 bits. */
  private static void theSortIsKept() {
    script.run("",
        "row 0 0 2 = 0", "row 0 2 101 = -1", "row 0 3 1 = -1", "row 0 2 -1 = -14", "keep 0 2 0 0 = -1",
        "keep 0 1 0 10 = -1", "put 0 1 40000 = 0", "element 0 1 = 64");
    script.run("",
        "row 0 1 2 = 0", "row 0 0 101 = -1", "row 0 -1 1 = -1", "row 0 0 -1 = -14", "put 0 1 40000 = 0",
        "element 0 1 = -25536");
    script.run("",
        "row 0 2 2 = 0", "row 0 0 101 = -1", "row 0 3 1 = -1", "row 0 1 -1 = -14", "put 0 1 40000 = 0",
        "element 0 1 = 40000", "element 0 2 = throws.IllegalStateException");
  }
}
