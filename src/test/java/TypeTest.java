/** Promises 4, 6 and 7: type, place, node. */
final class TypeTest {
  private static final int NONE = RoundTypes.NONE, FULL = RoundTypes.FULL, ODD = RoundTypes.ODD, SHORT = RoundTypes.SHORT,
      LOOSE = RoundTypes.LOOSE, LONG = RoundTypes.LONG;
  private static final Check CHECK = new Check();

  private static void fault(int what, int where, int... text) {
    Counted x = new Counted();
    Check.type(x, 3);
    String name = java.util.Arrays.toString(text);
    CHECK.due("type() of " + name, Check.type(x, text), what);
    CHECK.due("place() of " + name, x.place(), where);
    CHECK.due("count(0) after " + name, x.count(0), 1);
    CHECK.due("count(1) after " + name, x.count(1), 0);
  }

  private static void faults() {
    fault(SHORT, 0);
    fault(ODD, 0, 0);
    fault(ODD, 0, 10);
    fault(ODD, 0, -1);
    fault(ODD, 0, Integer.MIN_VALUE);
    fault(ODD, 0, 20);
    fault(LONG, 1, 1, 1);
    fault(LONG, 3, 5, 3, 3, 99);
    fault(SHORT, 1, 5);
    fault(SHORT, 2, 5, 3);
    fault(ODD, 2, 5, 3, 0);
    fault(SHORT, 1, 6);
    fault(ODD, 1, 6, 9);
    fault(ODD, 1, 7, -1);
    fault(SHORT, 2, 7, 1);
    fault(ODD, 2, 7, 1, 8);
    fault(ODD, 2, 6, 1, -1);
    fault(SHORT, 3, 6, 1, 7);
    fault(ODD, 3, 6, 1, 7, 11);
    fault(ODD, 4, 6, 2, 3, 3, 3, 3);
    fault(ODD, 4, 6, 2, 3, 3, 2, 3);
    fault(ODD, 4, 7, 2, 7, 3, 8);
    fault(ODD, 4, 7, 2, 7, 3, 7);
    fault(SHORT, 4, 7, 2, 7, 3);
    fault(LONG, 2, 6, 0, 3);
    fault(SHORT, 1, 8);
    fault(ODD, 1, 8, 10);
    fault(ODD, 1, 8, -1, 3);
    fault(SHORT, 2, 8, 9);
    fault(SHORT, 1, 9);
    fault(ODD, 1, 9, 10);
    fault(ODD, 1, 9, -1);
  }

  private static void loose() {
    fault(LOOSE, 0, 9, 0);
    fault(LOOSE, 0, 9, 0, 99);
    fault(LOOSE, 2, 8, 0, 9, 0);
    fault(LOOSE, 4, 8, 0, 8, 1, 9, 0);
    fault(LOOSE, 6, 8, 0, 8, 1, 8, 2, 9, 1);
    fault(LOOSE, 3, 8, 0, 5, 9, 1, 3);
    // The inner 8 0 is the one that counts, though the outer would do.
    fault(LOOSE, 6, 8, 0, 5, 3, 8, 0, 9, 0);
    // Behind its type an 8 is no more around.
    fault(LOOSE, 5, 5, 8, 0, 6, 0, 9, 0);
    fault(ODD, 4, 8, 0, 5, 9, 10, 3);
    fault(ODD, 3, 8, 0, 9, 10);
    fault(SHORT, 3, 8, 0, 9);
  }

  private static void nodes() {
    Counted x = new Counted();
    for (int kind = 0; kind < 4; kind++) {
      CHECK.due("type() of a word", Check.type(x, kind + 1), kind);
      CHECK.node(x, kind, kind, 0);
    }
    CHECK.due("a function", Check.type(x, 5, 6, 0, 5, 4, 3), 4);
    CHECK.node(x, 4, 4, 3, 5, 6);
    CHECK.node(x, 5, 5, 0);
    CHECK.node(x, 6, 4, 3, 7, 8);
    CHECK.node(x, 7, 3, 0);
    CHECK.node(x, 8, 2, 0);
    CHECK.due("a record", Check.type(x, 6, 2, 1, 7, 0, 6, 3), 9);
    CHECK.node(x, 9, 5, 66, 10, 11);
    CHECK.node(x, 10, 6, 0);
    CHECK.due("a choice of all labels", Check.type(x, 7, 8, 0, 1, 1, 2, 2, 3, 3, 4, 4, 1, 5, 2, 6, 3, 7, 4), 12);
    CHECK.node(x, 12, 6, 255, 13, 14, 15, 16, 17, 18, 19, 20);
    CHECK.due("count(0)", x.count(0), 21);
  }

  private static void round() {
    Counted x = new Counted();
    CHECK.due("itself", Check.type(x, 8, 9, 5, 9, 9, 9, 9), 0);
    CHECK.node(x, 0, 4, 3, 0, 0);
    CHECK.due("two names", Check.type(x, 8, 0, 5, 8, 1, 6, 2, 0, 9, 0, 1, 9, 1, 9, 0), 1);
    CHECK.node(x, 1, 4, 3, 2, 1);
    CHECK.node(x, 2, 5, 3, 1, 2);
    CHECK.due("the inner of one name", Check.type(x, 8, 0, 5, 8, 0, 5, 3, 9, 0, 9, 0), 3);
    CHECK.node(x, 3, 4, 3, 4, 3);
    CHECK.node(x, 4, 4, 3, 5, 4);
    CHECK.due("8s alone, and then a 9", Check.type(x, 8, 0, 5, 8, 1, 8, 2, 9, 0, 3), 6);
    CHECK.node(x, 6, 4, 3, 6, 7);
    CHECK.due("an 8 of a plain type", Check.type(x, 8, 3, 8, 3, 2), 8);
    CHECK.node(x, 8, 1, 0);
    CHECK.due("count(0)", x.count(0), 9);
  }

  private static void wrongNodes() {
    Counted x = new Counted();
    Check.type(x, 5, 3, 3);
    CHECK.due("node(0, -1)", x.node(0, -1), RoundTypes.BAD);
    CHECK.due("node(9, -1)", x.node(9, -1), RoundTypes.BAD);
    CHECK.due("node(-1, least)", x.node(-1, Integer.MIN_VALUE), RoundTypes.BAD);
    CHECK.due("node(3, 0)", x.node(3, 0), NONE);
    CHECK.due("node(-1, 0)", x.node(-1, 0), NONE);
    CHECK.due("node(least, 1)", x.node(Integer.MIN_VALUE, 1), NONE);
    int[] none = {4, 9, 10, 33, 34, 66, Integer.MAX_VALUE};
    for (int what : none) {
      CHECK.due("node(0, " + what + ")", x.node(0, what), NONE);
    }
  }

  private static void full() {
    Counted x = new Counted();
    CHECK.due("199 nodes of one text", Check.type(x, Check.chain(199)), 0);
    CHECK.due("the chain's end", x.node(98, 2), 99);
    CHECK.due("the chain's last", x.node(0, 3), 198);
    CHECK.due("one too many", Check.type(x, 6, 1, 3, 3), FULL);
    CHECK.due("place() of FULL", x.place(), NONE);
    CHECK.due("count(0)", x.count(0), 199);
    CHECK.due("count(1)", x.count(1), 0);
    CHECK.due("the last one", Check.type(x, 8, 0, 6, 2, 0, 9, 0, 1, 9, 0), 199);
    CHECK.due("node 199", x.node(199, 3), 199);
    CHECK.due("none more", Check.type(x, 3), FULL);
    CHECK.due("99 more", Check.type(x, Check.chain(99)), FULL);
    CHECK.due("a fault comes first", Check.type(x, 5, 3, 0), ODD);
    CHECK.due("its place", x.place(), 2);
    CHECK.due("LONG comes first", Check.type(x, 3, 3), LONG);
    CHECK.due("count(0) at the end", x.count(0), 200);
    CHECK.due("clear()", x.clear(), 200);
    CHECK.due("again from 0", Check.type(x, 3), 0);
  }

  private static void deep(int what, int where, int[] text) {
    Counted x = new Counted();
    CHECK.due("a deep text", Check.type(x, text), what);
    CHECK.due("its place", x.place(), where);
  }

  private static void deep() {
    deep(SHORT, 200, Check.times(200, 5));
    deep(SHORT, 200, Check.times(20, 8, 0, 8, 1, 8, 2, 8, 3, 8, 4));
    int[] binds = Check.join(Check.times(11, 8, 0, 8, 1, 8, 2, 8, 3, 8, 4, 8, 5, 8, 6, 8, 7, 8, 9));
    deep(0, NONE, Check.join(binds, Check.text(6, 0)));
    deep(LOOSE, 198, Check.join(binds, Check.text(9, 0)));
    deep(LOOSE, 198, Check.join(binds, Check.text(9, 9)));
  }

  public static void main(String[] args) {
    faults();
    loose();
    nodes();
    round();
    wrongNodes();
    full();
    deep();
    CHECK.end();
  }
}
