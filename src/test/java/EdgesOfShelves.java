/** Promises 44 to 50: what SHELVES hold, ROWS of 0 and of 100, numbers that wrap around. */
final class EdgesOfShelves {
  private static final String[] SORTS = {"bytes", "shorts", "ints"};
  private final Check check;
  private final Script script;

  EdgesOfShelves(Check check) {
    this.check = check;
    script = new Script(check);
  }

  void all() {
    eachShelfByItself();
    keepsInPlace();
    rowsOfNoneAndOfHundred();
    lowestBits();
    copiesOfSorts();
    copiesInItself();
    copiesToTheEnds();
    costsByFigures();
    failures();
  }

  private void eachShelfByItself() {
    NoManMaySail x = new NoManMaySail();
    for (int d = 0; d < 8; d++) {
      script.on(x, "eight SHELVES", "keep " + d + " 1 1 " + d + " = 0", "cost " + d + " = " + (2 + d));
    }
    for (int d = 0; d < 8; d += 2) {
      script.on(x, "eight SHELVES", "row " + d + " 2 1 = 0", "put " + d + " 0 " + (d - 5) + " = 0");
    }
    for (int d = 0; d < 8; d += 2) {
      script.on(x, "four ROWS, four KINDS", "element " + d + " 0 = " + (d - 5), "cost " + d + " = -12",
          "cost " + (d + 1) + " = " + (3 + d), "element " + (d + 1) + " 0 = throws.IllegalStateException");
    }
  }

  /** Promise 44: 0 nothing, whatever the others are; 1 a KIND. */
  private void keepsInPlace() {
    script.run("",
        "keep 0 0 -1 -1 = 0", "keep 0 0 LEAST MOST = 0", "cost 0 = -11", "keep 0 1 7 9 = 0", "cost 0 = 4",
        "keep 0 1 8 0 = -1", "keep 0 1 0 10 = -1", "keep 0 -1 0 0 = -1", "keep 0 2 0 0 = -1", "cost 0 = 4",
        "row 0 0 1 = 0", "cost 0 = -12", "keep 0 1 3 0 = 0", "cost 0 = 9", "put 0 0 0 = -12", "keep 0 0 8 10 = 0",
        "cost 0 = -11", "put 0 0 0 = -11", "row 0 1 2 = 0", "keep 0 0 0 0 = 0",
        "element 0 0 = throws.IllegalStateException");
  }

  /** Promises 45 to 47. */
  private void rowsOfNoneAndOfHundred() {
    for (int sort = 0; sort < 3; sort++) {
      NoManMaySail x = script.run("",
          "row 0 " + sort + " 0 = 0", "put 0 0 1 = -13", "put 0 -1 1 = -13",
          "element 0 0 = throws.IllegalStateException",
          "row 0 " + sort + " 1 = 0", "put 0 0 5 = 0", "put 0 1 5 = -13", "element 0 0 = 5",
          "element 0 1 = throws.IllegalStateException", "element 0 -1 = throws.IllegalStateException",
          "row 0 " + sort + " 100 = 0", "put 0 99 7 = 0", "put 0 100 7 = -13", "element 0 99 = 7", "element 0 0 = 0",
          "element 0 100 = throws.IllegalStateException", "row 0 " + sort + " 101 = -1", "element 0 99 = 7",
          "row 0 " + sort + " -1 = -14", "element 0 99 = 7");
      for (int i = 0; i < 100; i++) {
        check.due("put 0 " + i, x.put(0, i, i - 50), 0);
      }
      for (int i = 0; i < 100; i++) {
        check.due("element 0 " + i, x.element(0, i), i - 50);
      }
      script.on(x, "a ROW anew", "row 0 " + sort + " 100 = 0", "element 0 0 = 0", "element 0 99 = 0",
          "row 0 " + sort + " 2 = 0", "put 0 1 3 = 0", "row 0 " + sort + " 3 = 0", "element 0 1 = 0");
    }
  }

  private void lowestBits() {
    script.run("", "row 0 0 1 = 0",
        "put 0 0 127 = 0", "element 0 0 = 127", "put 0 0 128 = 0", "element 0 0 = -128", "put 0 0 -129 = 0",
        "element 0 0 = 127", "put 0 0 255 = 0", "element 0 0 = -1", "put 0 0 256 = 0", "element 0 0 = 0",
        "put 0 0 MOST = 0", "element 0 0 = -1", "put 0 0 LEAST = 0", "element 0 0 = 0");
    script.run("", "row 0 1 1 = 0",
        "put 0 0 128 = 0", "element 0 0 = 128", "put 0 0 32767 = 0", "element 0 0 = 32767", "put 0 0 32768 = 0",
        "element 0 0 = -32768", "put 0 0 -32769 = 0", "element 0 0 = 32767", "put 0 0 65535 = 0",
        "element 0 0 = -1", "put 0 0 65536 = 0", "element 0 0 = 0", "put 0 0 MOST = 0", "element 0 0 = -1",
        "put 0 0 LEAST = 0", "element 0 0 = 0");
    script.run("", "row 0 2 1 = 0",
        "put 0 0 32768 = 0", "element 0 0 = 32768", "put 0 0 MOST = 0", "element 0 0 = 2147483647",
        "put 0 0 LEAST = 0", "element 0 0 = -2147483648", "put 0 0 -1 = 0", "element 0 0 = -1");
  }

  /** Promise 48: of one SORT alone. */
  private void copiesOfSorts() {
    for (int from = 0; from < 3; from++) {
      for (int to = 0; to < 3; to++) {
        int due = from == to ? 1 : -12;
        script.run("", SORTS[from] + " 0: 5 6", SORTS[to] + " 1: 7 8", "copy 0 1 1 0 1 = " + due,
            "element 1 0 = " + (from == to ? 6 : 7), "element 1 1 = 8", "element 0 1 = 6",
            "copy 0 0 1 0 0 = " + (from == to ? 0 : -12), "copy 0 0 1 0 3 = " + (from == to ? -13 : -12));
      }
    }
  }

  private void copiesInItself() {
    copied("0 0 0 0 5", "1 2 3 4 5");
    copied("0 0 0 1 4", "1 1 2 3 4");
    copied("0 1 0 0 4", "2 3 4 5 5");
    copied("0 0 0 4 1", "1 2 3 4 1");
    copied("0 4 0 0 1", "5 2 3 4 5");
    copied("0 1 0 2 2", "1 2 2 3 5");
    copied("0 2 0 2 0", "1 2 3 4 5");
  }

  private void copied(String arguments, String due) {
    NoManMaySail x = new NoManMaySail();
    Ships.row(x, 0, 2, 1, 2, 3, 4, 5);
    check.due("copy " + arguments, Calls.answer(x, "copy " + arguments), arguments.charAt(8) - '0');
    check.holds("copied by " + arguments, Ships.cells(x, 0).equals("[" + due + " ]"));
  }

  private void copiesToTheEnds() {
    script.run("", "row 0 0 100 = 0", "row 1 0 100 = 0", "row 2 0 0 = 0", "put 0 0 4 = 0", "put 0 99 9 = 0",
        "copy 0 0 1 0 100 = 100", "element 1 0 = 4", "element 1 99 = 9", "copy 0 0 1 0 101 = -13",
        "copy 0 1 1 0 100 = -13", "copy 0 0 1 1 100 = -13", "copy 0 99 1 0 1 = 1", "element 1 0 = 9",
        "copy 0 100 1 0 1 = -13", "copy 0 0 1 100 1 = -13", "copy 0 99 1 98 1 = 1", "copy 0 99 1 0 2 = -13",
        "copy 0 0 1 99 2 = -13", "copy 2 0 0 0 1 = -13", "copy 0 0 2 0 1 = -13", "copy 2 0 2 0 0 = 0",
        "copy 0 MOST 1 0 MOST = -13", "copy 0 1 1 1 MOST = -13", "copy 0 LEAST 1 0 LEAST = -13",
        "copy 0 0 1 LEAST 1 = -13", "copy 0 MOST 1 MOST 2 = -13", "copy 0 0 1 0 LEAST = -13",
        "copy 0 50 1 50 -1 = -13");
  }

  /** Promise 49: by KINDS for FIGURES 0, 1, 5 and 9. */
  private void costsByFigures() {
    int[] figures = {0, 1, 5, 9};
    int[][] costs = {{2, 2, 2, 2}, {2, 3, 7, 11}, {1, 1, 1, 1}, {9, 9, 9, 9}, {4, 6, 14, 22}, {4, 4, 4, 4},
        {6, 6, 6, 6}, {4, 4, 4, 4}};
    for (int k = 0; k < 8; k++) {
      for (int i = 0; i < 4; i++) {
        script.run("", "keep 7 1 " + k + " " + figures[i] + " = 0", "cost 7 = " + costs[k][i]);
      }
    }
  }

  /** Promise 50: FIGURES 1 and 9 have a FAILURE, 0 has none. */
  private void failures() {
    int[] figures = {0, 1, 5, 9};
    int[][] tosses = {{-15, 1, 5, 9}, {-15, 101, 105, 109}, {-15, 1, 5, 9}, {-15, -15, -15, -15},
        {-15, 206, 214, 222}, {-15, 1, 5, 9}, {-15, 1, 5, 9}, {-15, -15, -15, -15}};
    for (int k = 0; k < 8; k++) {
      for (int i = 0; i < 4; i++) {
        script.run("", "keep 0 1 " + k + " " + figures[i] + " = 0", "toss 0 = " + tosses[k][i]);
      }
    }
  }
}
