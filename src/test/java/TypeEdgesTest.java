import java.util.Arrays;

/** The sentences of promises 4 and 7, and of what a TYPE's text is, that name an edge, each with a test of its own. */
final class TypeEdgesTest {
  private static final int NONE = RoundTypes.NONE, BAD = RoundTypes.BAD, FULL = RoundTypes.FULL, ODD = RoundTypes.ODD,
      SHORT = RoundTypes.SHORT, LOOSE = RoundTypes.LOOSE, LONG = RoundTypes.LONG;
  private static final int LEAST = Integer.MIN_VALUE, GREATEST = Integer.MAX_VALUE;
  private static final int[] ALL_LABELS = {8, 0, 1, 1, 2, 2, 3, 3, 4, 4, 1, 5, 2, 6, 3, 7, 4};
  private static final Check CHECK = new Check();

  private static void fault(int what, int where, int... text) {
    fault(new Counted(), what, where, text);
  }

  private static void fault(Counted x, int what, int where, int... text) {
    int before = x.count(0);
    String name = Arrays.toString(text);
    CHECK.due("type() of " + name, Check.type(x, text), what);
    CHECK.due("place() of " + name, x.place(), where);
    CHECK.due("count(0) after " + name, x.count(0), before);
  }

  /** A text without a fault, on a new object: how many nodes come. */
  private static Counted good(int came, int... text) {
    Counted x = new Counted();
    String name = Arrays.toString(text);
    CHECK.due("type() of " + name, Check.type(x, text), 0);
    CHECK.due("place() of " + name, x.place(), NONE);
    CHECK.due("count(0) after " + name, x.count(0), came);
    return x;
  }

  private static int[][] goodTexts() {
    return new int[][] {{1}, {2}, {3}, {4}, {5, 3, 4}, {6, 0}, {7, 0}, {6, 2, 0, 3, 7, 4}, {7, 1, 5, 5, 1, 2},
        Check.join(Check.text(6), ALL_LABELS), {8, 0, 3}, {8, 9, 5, 9, 9, 9, 9},
        {8, 0, 6, 2, 3, 9, 0, 4, 8, 1, 7, 1, 0, 5, 9, 1, 9, 0}};
  }

  private static void words() {
    int[] odd = {0, 10, 11, 20, -1, 257, LEAST, GREATEST};
    for (int word : odd) {
      fault(ODD, 0, word);
      fault(ODD, 1, 5, word);
      fault(ODD, 2, 5, 3, word);
      fault(ODD, 3, 6, 1, 7, word);
      fault(ODD, 2, 8, 0, word);
    }
    for (int word = 1; word <= 4; word++) {
      CHECK.node(good(1, word), 0, word - 1, 0);
    }
    CHECK.node(good(3, 5, 1, 2), 0, 4, 3, 1, 2);
    CHECK.node(good(2, 6, 1, 0, 3), 0, 5, 1, 1);
    CHECK.node(good(2, 7, 1, 0, 3), 0, 6, 1, 1);
  }

  private static void howMany() {
    for (int word = 6; word <= 7; word++) {
      int[] odd = {-1, 9, 10, 256, LEAST, GREATEST};
      for (int n : odd) {
        fault(ODD, 1, word, n);
        fault(ODD, 1, word, n, 0, 3);
      }
      CHECK.node(good(1, word, 0), 0, word - 1, 0);
      Counted x = good(9, Check.join(Check.text(word), ALL_LABELS));
      CHECK.node(x, 0, word - 1, 255, 1, 2, 3, 4, 5, 6, 7, 8);
      fault(LONG, 18, Check.join(Check.text(word), ALL_LABELS, Check.text(7)));
    }
  }

  private static void labels() {
    for (int word = 6; word <= 7; word++) {
      int[] odd = {-1, 8, 9, 32, 256, LEAST, GREATEST};
      for (int label : odd) {
        fault(ODD, 2, word, 1, label, 3);
        fault(ODD, 4, word, 2, 3, 3, label, 3);
      }
      for (int label = 0; label < 8; label++) {
        CHECK.node(good(2, word, 1, label, 3), 0, word - 1, 1 << label, 1);
      }
    }
  }

  private static void labelsRise() {
    for (int word = 6; word <= 7; word++) {
      for (int first = 0; first < 8; first++) {
        for (int second = 0; second < 8; second++) {
          if (second > first) {
            CHECK.due("rising", Check.type(new Counted(), word, 2, first, 3, second, 4), 0);
          } else {
            fault(ODD, 4, word, 2, first, 3, second, 4);
          }
        }
      }
      fault(ODD, 6, word, 3, 0, 3, 7, 4, 0, 3);
      // Each row of labels rises by itself.
      good(4, word, 2, 3, word, 1, 0, 3, 4, 3);
    }
  }

  private static void names() {
    int[] odd = {-1, 10, 11, 256, LEAST, GREATEST};
    for (int v : odd) {
      fault(ODD, 1, 8, v);
      fault(ODD, 1, 8, v, 3);
      fault(ODD, 4, 8, 0, 5, 9, v, 3);
    }
    for (int v = 0; v <= 9; v++) {
      CHECK.node(good(1, 8, v, 5, 9, v, 9, v), 0, 4, 3, 0, 0);
    }
  }

  private static void innermost() {
    Counted x = good(2, 8, 0, 5, 8, 0, 5, 9, 0, 9, 0, 9, 0);
    CHECK.node(x, 0, 4, 3, 1, 0);
    CHECK.node(x, 1, 4, 3, 1, 1);
    // Behind the inner one the outer one is the innermost again; ten names around are told apart.
    int[] ten = {8, 0, 6, 1, 0, 8, 1, 6, 1, 0, 8, 2, 6, 1, 0, 8, 3, 6, 1, 0, 8, 4, 6, 1, 0, 8, 5, 6, 1, 0, 8, 6, 6, 1, 0, 8, 7, 6, 1,
        0, 8, 8, 6, 1, 0, 8, 9, 6, 2};
    for (int v = 0; v <= 9; v++) {
      Counted y = good(10, Check.join(ten, Check.text(0, 9, v, 1, 9, 9 - v)));
      CHECK.node(y, 9, 5, 3, v, 9 - v);
    }
  }

  private static void shortTexts() {
    for (int[] text : goodTexts()) {
      for (int length = 0; length < text.length; length++) {
        fault(SHORT, length, Arrays.copyOf(text, length));
      }
    }
    fault(SHORT, 200, Check.times(200, 5));
  }

  private static void longTexts() {
    int[] behind = {0, 3, 9, 77, LEAST};
    for (int[] text : goodTexts()) {
      for (int n : behind) {
        fault(LONG, text.length, Check.join(text, Check.text(n)));
        fault(LONG, text.length, Check.join(text, Check.text(n, n, n)));
      }
    }
    fault(LONG, 199, Check.join(Check.chain(199), Check.text(3)));
  }

  private static void looseTexts() {
    fault(LOOSE, 0, 9, 0);
    fault(LOOSE, 0, 9, 9);
    fault(LOOSE, 3, 8, 0, 5, 9, 1, 3);
    fault(LOOSE, 5, 5, 8, 0, 6, 0, 9, 0);
    fault(LOOSE, 7, 5, 8, 0, 5, 3, 9, 0, 9, 0);
    fault(LOOSE, 8, 6, 2, 0, 8, 5, 3, 1, 5, 9, 5, 3);
    // A text that was read before has no 8 around.
    Counted x = new Counted();
    Check.type(x, 8, 0, 5, 3, 3);
    fault(x, LOOSE, 1, 5, 9, 0, 3);
  }

  private static void nothingBut8s() {
    fault(LOOSE, 2, 8, 0, 9, 0);
    fault(LOOSE, 4, 8, 0, 8, 1, 9, 0);
    fault(LOOSE, 4, 8, 0, 8, 1, 9, 1);
    fault(LOOSE, 4, 8, 0, 8, 0, 9, 0);
    fault(LOOSE, 6, 8, 0, 5, 3, 8, 1, 9, 1);
    fault(LOOSE, 6, 8, 0, 5, 3, 8, 0, 9, 0);
    fault(LOOSE, 8, 8, 0, 5, 3, 8, 1, 8, 2, 9, 1);
    // There is a node between, though 8s stand there too.
    CHECK.node(good(2, 8, 0, 5, 3, 8, 1, 9, 0), 0, 4, 3, 1, 0);
    CHECK.node(good(2, 8, 0, 8, 1, 5, 3, 8, 2, 9, 0), 0, 4, 3, 1, 0);
  }

  private static void goodNameFirst() {
    fault(ODD, 1, 9, 10);
    fault(ODD, 1, 9, -1);
    fault(ODD, 3, 8, 0, 9, 10);
    fault(SHORT, 1, 9);
    fault(SHORT, 3, 8, 0, 9);
  }

  private static void firstFromLeft() {
    fault(LOOSE, 1, 5, 9, 0, 77);
    fault(LOOSE, 1, 5, 9, 0);
    fault(LOOSE, 0, 9, 0, 3);
    fault(ODD, 1, 5, 77, 9, 0);
    fault(ODD, 1, 5, 0);
    fault(ODD, 2, 5, 3, 0, 3, 3);
    fault(LOOSE, 3, 6, 2, 3, 9, 0, 1, 3);
    fault(ODD, 4, 6, 2, 3, 3, 1, 9, 0);
    fault(LONG, 1, 3, 9, 0);
    fault(LONG, 1, 3, 0);
    fault(ODD, 2, 6, 1, 8, 9, 0);
  }

  private static void full() {
    Counted x = new Counted();
    Check.fill(x, 199);
    int[][] two = {{6, 1, 0, 3}, {7, 1, 0, 3}, {5, 3, 8, 0, 5, 9, 0, 9, 0}, {5, 1, 1}};
    for (int[] text : two) {
      fault(x, FULL, NONE, text);
      CHECK.due("no node came", x.node(199, 0), NONE);
    }
    CHECK.due("one node: 8 and 9 are none", Check.type(x, 8, 0, 6, 2, 0, 9, 0, 7, 8, 1, 9, 0), 199);
    CHECK.node(x, 199, 5, 129, 199, 199);
    int[][] one = {{1}, {2}, {3}, {4}, {6, 0}, {7, 0}, {8, 0, 5, 9, 0, 9, 0}};
    for (int[] text : one) {
      fault(x, FULL, NONE, text);
      CHECK.due("no node came", x.node(200, 0), NONE);
    }
    CHECK.node(x, 199, 5, 129, 199, 199);
    CHECK.due("clear()", x.clear(), 200);
    CHECK.due("room again", Check.type(x, 6, 1, 0, 3), 0);
  }

  /** A text of many nodes, where there is room for just those or for one less. */
  private static void fullByLittle() {
    Counted x = new Counted();
    Check.fill(x, 3);
    CHECK.due("197 of 197", Check.type(x, Check.chain(197)), 3);
    CHECK.due("count(0)", x.count(0), 200);
    CHECK.due("the last", x.node(199, 0), 2);
    Counted y = new Counted();
    Check.fill(y, 4);
    fault(y, FULL, NONE, Check.chain(197));
    CHECK.due("the node before", y.node(3, 0), 2);
    CHECK.due("195 of 196", Check.type(y, Check.chain(195)), 4);
  }

  private static void fullBehindFaults() {
    Counted x = new Counted();
    Check.fill(x, 200);
    fault(x, SHORT, 0);
    fault(x, ODD, 0, 0);
    fault(x, ODD, 2, 5, 3, 10);
    fault(x, SHORT, 2, 5, 3);
    fault(x, LOOSE, 3, 8, 0, 5, 9, 1, 3);
    fault(x, LOOSE, 2, 8, 0, 9, 0);
    fault(x, LONG, 1, 3, 3);
    fault(x, ODD, 99, Check.join(Check.times(99, 5), Check.text(0)));
    fault(x, FULL, NONE, 3);
  }

  /** The longest text where there are the most nodes: nothing of it comes, and nothing of before is changed. */
  private static void fullByMuch() {
    Counted x = new Counted();
    Check.fill(x, 198);
    Check.type(x, 7, 1, 7, 3);
    fault(x, FULL, NONE, Check.join(Check.times(99, 5, 3), Check.text(3)));
    CHECK.node(x, 198, 6, 128, 199);
    CHECK.node(x, 199, 2, 0);
    fault(x, FULL, NONE, Check.chain(9));
  }

  private static void numbered() {
    Counted x = new Counted();
    CHECK.due("the first", Check.type(x, 3), 0);
    Check.fill(x, 199);
    CHECK.due("the last", Check.type(x, 8, 0, 5, 9, 0, 9, 0), 199);
    CHECK.due("count(0)", x.count(0), 200);
    CHECK.node(x, 199, 4, 3, 199, 199);
    CHECK.due("none such", x.node(200, 0), NONE);
  }

  private static void noSuchNode() {
    Counted x = new Counted();
    Check.type(x, 5, 3, 4);
    int[] none = {-1, 3, 4, 200, 256, GREATEST, LEAST};
    for (int k : none) {
      for (int what = 0; what < 11; what++) {
        CHECK.due("node(" + k + ", " + what + ")", x.node(k, what), NONE);
      }
      CHECK.due("node(" + k + ", greatest)", x.node(k, GREATEST), NONE);
    }
  }

  private static void noSuchPart() {
    Counted x = new Counted();
    Check.type(x, Check.join(Check.text(6), ALL_LABELS));
    Check.type(x, 5, 3, 3);
    Check.type(x, 7, 2, 0, 3, 7, 3);
    for (int k = 1; k <= 8; k++) {
      CHECK.node(x, k, (k - 1) % 4, 0);
    }
    CHECK.node(x, 0, 5, 255, 1, 2, 3, 4, 5, 6, 7, 8);
    CHECK.node(x, 9, 4, 3, 10, 11);
    CHECK.node(x, 12, 6, 129, 13, 14);
    int[] far = {10, 11, 33, 34, 66, 258, GREATEST};
    for (int what : far) {
      CHECK.due("node(0, " + what + ")", x.node(0, what), NONE);
      CHECK.due("node(12, " + what + ")", x.node(12, what), NONE);
    }
  }

  private static void badBeforeThat() {
    Counted x = new Counted();
    CHECK.due("no nodes: node(0, -1)", x.node(0, -1), BAD);
    Check.type(x, 5, 3, 4);
    int[] ks = {-1, 0, 2, 3, GREATEST, LEAST};
    int[] bad = {-1, -2, -256, LEAST, LEAST + 2};
    for (int k : ks) {
      for (int what : bad) {
        CHECK.due("node(" + k + ", " + what + ")", x.node(k, what), BAD);
      }
    }
  }

  private static void labelBits() {
    Counted x = new Counted();
    for (int label = 0; label < 8; label++) {
      int k = Check.type(x, label % 2 == 0 ? 6 : 7, 1, label, 4);
      CHECK.node(x, k, label % 2 == 0 ? 5 : 6, 1 << label, k + 1);
    }
  }

  public static void main(String[] args) {
    CHECK.edge("numbered from 0 on, 200 at most.", TypeEdgesTest::numbered);
    CHECK.edge("ODD, at a word or number that can't stand there", TypeEdgesTest::words);
    CHECK.edge("(n 0 .. 8, LABELS rising)", TypeEdgesTest::howMany);
    CHECK.edge("each with some LABELS 0 .. 7, and a part for each", TypeEdgesTest::labels);
    CHECK.edge("(LABELS that do not rise, too)", TypeEdgesTest::labelsRise);
    CHECK.edge("in which v (0 .. 9) is A itself", TypeEdgesTest::names);
    CHECK.edge("9 v: that of the 8 v around it, the innermost.", TypeEdgesTest::innermost);
    CHECK.edge("SHORT, where the text ends", TypeEdgesTest::shortTexts);
    CHECK.edge("LOOSE, at 9", TypeEdgesTest::looseTexts);
    CHECK.edge("(its v being good)", TypeEdgesTest::goodNameFirst);
    CHECK.edge("no 8 v around, or nothing but 8s between it and its 8 v", TypeEdgesTest::nothingBut8s);
    CHECK.edge("LONG, at what is behind.", TypeEdgesTest::longTexts);
    CHECK.edge("FAULTS, the first from the left", TypeEdgesTest::firstFromLeft);
    CHECK.edge("FULL, behind these", TypeEdgesTest::fullBehindFaults);
    CHECK.edge("there are too few NODES.", TypeEdgesTest::fullByLittle);
    CHECK.edge("(No NODES come then.)", TypeEdgesTest::full);
    CHECK.edge("there are too few NODES. (No NODES come then.)", TypeEdgesTest::fullByMuch);
    CHECK.edge("its LABELS as bits (of a FUNCTION 3, of others 0)", TypeEdgesTest::labelBits);
    CHECK.edge("NONE: no such part, or no such NODE", TypeEdgesTest::noSuchPart);
    CHECK.edge("or no such NODE", TypeEdgesTest::noSuchNode);
    CHECK.edge("BAD, before that: what below 0.", TypeEdgesTest::badBeforeThat);
    CHECK.end();
  }
}
