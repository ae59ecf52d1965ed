/** Promise 2: where THE TEXT of a CAPE is whole, where it is broken, what can't be done. */
final class EdgesOfText {
  private static final String LETTERS = "psblwn";
  private static final String EIGHT = "p04;p04;p04;p04;p04;p04;p04;p04;";
  private final Check check;
  private final Script script;

  EdgesOfText(Check check) {
    this.check = check;
    script = new Script(check);
  }

  void all() {
    oneStatementAtLeast();
    cutAnywhere();
    brokenAnywhere();
    everyByte();
    digitsOutOfRange();
    seasonsOutOfRange();
    noSuchOne();
    noRoom();
    lostIntoABoat();
    seasonAbove();
    theFirstIsTold();
    withOneFaultNothingComes();
    hundredBytes();
  }

  private void cape(NoManMaySail x, String text, long due) {
    check.due("cape of '" + text + "'", Ships.cape(x, text), due);
  }

  private void oneStatementAtLeast() {
    script.run("", "bytes 0:", "cape 0 = -1000", "bytes 0: 0", "cape 0 = -1000", "text ; = -1000", "text l2; = 1",
        "text l2;; = -1003", "text l2;l3; = 2");
  }

  /** Cut behind a STATEMENT a text is whole; cut elsewhere something lacks at the end. */
  private void cutAnywhere() {
    String text = "p04;p13;s012;b09;l3;w9;n60;";
    int statements = 0;
    for (int end = 1; end <= text.length(); end++) {
      boolean whole = text.charAt(end - 1) == ';';
      statements += whole ? 1 : 0;
      cape(new NoManMaySail(), text.substring(0, end), whole ? statements : -1000 - end);
    }
    check.due("all are there", statements, 7);
  }

  private void brokenAnywhere() {
    String text = "p04;p13;s012;b09;l3;w9;n60;";
    for (int place = 0; place < text.length(); place++) {
      String broken = text.substring(0, place) + "?" + text.substring(place + 1);
      NoManMaySail x = new NoManMaySail();
      cape(x, broken, -1000 - place);
      check.due("nobody comes", x.count(0), 0);
    }
  }

  /** Each of the 256 bytes where a letter, a digit or a ";" is wanted. */
  private void everyByte() {
    NoManMaySail x = new NoManMaySail();
    for (int v = -128; v < 128; v++) {
      String sign = "" + (char) (v & 255);
      boolean letter = v > 0 && LETTERS.indexOf(v) >= 0;
      boolean digit = v >= '0' && v <= '9';
      cape(x, sign, letter ? -1001 : -1000);
      cape(x, "l2;" + sign, letter ? -1004 : -1003);
      cape(x, "l" + sign, digit ? -1002 : -1001);
      cape(x, "p0" + sign, digit ? -1003 : -1002);
      cape(x, "s01" + sign, digit ? -1004 : -1003);
      cape(x, "l2" + sign, v == ';' ? 1 : -1002);
      cape(x, "s012" + sign, v == ';' ? -2000 : -1004);
    }
  }

  private void digitsOutOfRange() {
    for (int d = 0; d < 10; d++) {
      cape(new NoManMaySail(), "p" + d + "0;", d <= 7 ? 1 : -2000);
      cape(new NoManMaySail(), "p0" + d + ";", 1);
      cape(new NoManMaySail(), "p00;p00;s01" + d + ";", d <= 3 ? 3 : -2008);
      cape(new NoManMaySail(), "p00;b0" + d + ";", d <= 2 || d == 9 ? 2 : -2004);
      cape(new NoManMaySail(), "l" + d + ";", d <= 3 ? 1 : -2000);
      cape(new NoManMaySail(), "w" + d + ";", 1);
      script.run("", "text w" + d + "; = 1", "count 2 = " + d, "text p7" + d + "; = 1", "sailor 0 1 = " + d);
    }
  }

  private void seasonsOutOfRange() {
    for (int n = 0; n < 100; n++) {
      NoManMaySail x = new NoManMaySail();
      boolean taken = n >= 1 && n <= 60;
      cape(x, "n" + n / 10 + n % 10 + ";", taken ? 1 : -2000);
      check.due("SEASON behind " + n, x.count(3), taken ? n : 0);
    }
  }

  private void noSuchOne() {
    for (int d = 0; d < 10; d++) {
      cape(Ships.ship(EIGHT), "b" + d + "0;", d < 8 ? 1 : -2000);
      cape(Ships.ship(EIGHT), "s" + d + "32;", d < 8 && d != 3 ? 1 : -2000);
      cape(Ships.ship(EIGHT), "s3" + d + "2;", d < 8 && d != 3 ? 1 : -2000);
      cape(Ships.ship("p00;p00;"), "b" + d + "9;", d < 2 ? 1 : -2000);
      cape(Ships.ship("p00;p00;"), "s" + d + "02;", d == 1 ? 1 : -2000);
      cape(Ships.ship("p00;p00;"), "s1" + d + "0;", d == 0 ? 1 : -2000);
    }
    script.run("", "text b09; = -2000", "text s010; = -2000", "text p00;b09; = 2", "text b10;p00; = -2000");
  }

  private void noRoom() {
    script.run(EIGHT.substring(4),
        "text p00;p00; = -2004", "count 0 = 7", "text p79; = 1", "count 0 = 8", "sailor 7 0 = 7", "text p00; = -2000",
        "text l1;w1;p00; = -2006", "text l1;w1; = 2");
  }

  private void lostIntoABoat() {
    NoManMaySail x = Ships.ship("p24;p00;b00;n01;");
    for (int d = 0; d < 10; d++) {
      cape(x, "b0" + d + ";", d == 9 ? 1 : -2000);
      cape(x, "b1" + d + ";", d <= 2 || d == 9 ? 1 : -2000);
    }
    script.on(x, "a LOST one", "count 4 = 1", "sailor 0 2 = 9", "sailor 1 2 = 9", "boards 0 9 = -3");
    // He is LOST by the STATEMENT ahead of it, or not yet.
    script.run("", "text p24;b00;n01;b00; = -2012", "text p24;b00;n01;b09; = 4", "text b00; = -2000");
    script.run("", "text p24;b00;b01;n01; = 4", "count 4 = 1");
  }

  private void seasonAbove() {
    String far = "n60;".repeat(15);
    script.run(far + "n39;", "count 3 = 939", "text n60; = 1", "count 3 = 999", "text n01; = -2000");
    script.run(far + "n40;", "text n60; = -2000", "text n59;n01; = -2004", "count 3 = 940", "text n59; = 1",
        "count 3 = 999", "text n60; = -2000", "text l1;n01; = -2003", "text l1; = 1");
  }

  private void theFirstIsTold() {
    script.run("p00;p00;",
        "text l2;l4;b03;p90; = -2003", "text l2;b03;l4;p90; = -2003", "text l2;s000;b03; = -2003",
        "text n61;n00; = -2000", "text l4;x = -1003", "text l4 = -1002", "text p90;s000;b9 = -1011");
  }

  private void withOneFaultNothingComes() {
    NoManMaySail x = script.run("p24;p19;b00;b10;w4;",
        "text p31;s012;s101;b11;b29;l3;w1;n05;p99; = -2032", "text p31;s012;s101;b11;b29;l3;w1;n05;p = -1033",
        "text p31;s012;s101;b11;b29;l3;w1;n05; = 8", "count 0 = 3", "count 1 = 3", "count 2 = 1", "count 3 = 5",
        "sailor 2 0 = 3", "sailor 2 1 = 1", "saved 0 1 = 2", "saved 1 0 = 1", "sailor 1 2 = 1", "sailor 0 3 = 1");
    String text = Ships.cells(x, 7);
    x.cape(7);
    check.holds("the ROW of a text stays", text.equals(Ships.cells(x, 7)));
    check.due("it is as long as it was", text.chars().filter(c -> c == ' ').count(), 32);
  }

  private void hundredBytes() {
    script.run("",
        "text " + "n01;".repeat(25) + " = 25", "count 3 = 25", "text " + "n01;".repeat(24) + "b09; = -2096",
        "text " + "n01;".repeat(24) + "n01 = -1099", "text " + "n01;".repeat(24) + "n012 = -1099",
        "text " + "n01;".repeat(24) + "s012 = -1100", "text " + "n01;".repeat(24) + "l2;w = -1100",
        "text " + "l2;".repeat(33) + "w = -1100", "text " + "l2;".repeat(33) + "; = -1099",
        "text " + "l3;".repeat(33) + " = 33", "count 3 = 25", "count 1 = 3");
  }
}
