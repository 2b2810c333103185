/** What the tests share: it tells each answer that is not the one that is due. */
final class Check {
  private int asked;
  private int wrong;

  void due(String call, long got, long want) {
    asked++;
    if (got != want) {
      wrong++;
      if (wrong <= 40) {
        System.out.println(call + " answered " + got + ", due is " + want);
      }
    }
  }

  /** A node of a kind and labels: its parts by rising labels, and that there are no others. */
  void node(RoundTypes x, int k, int kind, int labels, int... parts) {
    due("kind of " + k, x.node(k, 0), kind);
    due("labels of " + k, x.node(k, 1), labels);
    int next = 0;
    for (int l = 0; l < 9; l++) {
      boolean has = (labels >> l & 1) == 1;
      due("part " + l + " of " + k, x.node(k, l + 2), has ? parts[next] : RoundTypes.NONE);
      next += has ? 1 : 0;
    }
  }

  boolean good() {
    return wrong == 0;
  }

  static void feed(RoundTypes x, int... numbers) {
    for (int n : numbers) {
      x.feed(n);
    }
  }

  /** Feeds a text and reads it as a type. */
  static int type(RoundTypes x, int... numbers) {
    feed(x, numbers);
    return x.type();
  }

  /** Feeds a text and reads it as a term. */
  static int term(RoundTypes x, int... numbers) {
    feed(x, numbers);
    return x.term();
  }

  void end() {
    System.out.println(asked - wrong + " answers are as due, " + wrong + " are not");
    if (wrong != 0) {
      System.exit(1);
    }
  }
}
