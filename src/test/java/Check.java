/** Counts the answers of a test, tells those that are not due, and ends the test. */
final class Check {
  private int passed;
  private int failed;

  void due(String call, long got, long want) {
    if (got == want) {
      passed++;
      return;
    }
    failed++;
    // A broken rule breaks very many answers; the first ones tell enough.
    if (failed <= 40) {
      System.out.println(call + " answered " + got + ", due is " + want);
    }
  }

  void holds(String what, boolean is) {
    due(what, is ? 1 : 0, 1);
  }

  int failed() {
    return failed;
  }

  void end(String test) {
    System.out.println(test + ": " + passed + " passed, " + failed + " failed");
    if (failed > 0 || passed == 0) {
      System.exit(1);
    }
  }
}
