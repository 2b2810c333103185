/** The sentences of promises 8, 9 and 10, and of BELOW and DEPTH, that name an edge, each with a test of its own. */
final class OrderEdgesTest {
  private static final int NONE = RoundTypes.NONE, BAD = RoundTypes.BAD;
  private static final int LEAST = Integer.MIN_VALUE, GREATEST = Integer.MAX_VALUE;
  private static final Check CHECK = new Check();

  /** a against b: the depth, NONE if a is below, and the whole way. */
  private static void two(Counted x, int a, int b, int depth, int... way) {
    String name = "(" + a + ", " + b + ")";
    CHECK.due("below" + name, x.below(a, b), depth == NONE ? 1 : 0);
    CHECK.due("depth" + name, x.depth(a, b), depth);
    for (int k = 0; k < way.length; k++) {
      CHECK.due("way" + name + " " + k, x.way(a, b, k), way[k]);
    }
    CHECK.due("way" + name + " behind", x.way(a, b, way.length), NONE);
  }

  /** The text of a record or choice of all labels of a bit row, each part being one word, but for one label's. */
  private static int[] row(int word, int labels, int part, int label, int other) {
    int[] text = new int[2 + 2 * Integer.bitCount(labels)];
    text[0] = word;
    text[1] = Integer.bitCount(labels);
    int at = 2;
    for (int l = 0; l < 8; l++) {
      if ((labels >> l & 1) == 1) {
        text[at] = l;
        text[at + 1] = l == label ? other : part;
        at += 2;
      }
    }
    return text;
  }

  private static int[] row(int word, int labels, int part) {
    return row(word, labels, part, NONE, part);
  }

  private static void kinds() {
    int[][] texts = {{1}, {2}, {3}, {4}, {5, 3, 3}, {6, 0}, {7, 0}};
    for (int p = 0; p < texts.length; p++) {
      for (int q = 0; q < texts.length; q++) {
        Counted x = new Counted();
        int a = Check.type(x, texts[p]);
        int b = Check.type(x, texts[q]);
        two(x, a, b, p == q || p == 1 || q == 0 ? NONE : 0);
        two(x, a, a, NONE);
      }
    }
  }

  private static void recordLabels() {
    for (int l = 0; l < 8; l++) {
      Counted x = new Counted();
      int none = Check.type(x, 6, 0);
      int one = Check.type(x, row(6, 1 << l, 3));
      int others = Check.type(x, row(6, 255 & ~(1 << l), 3));
      int all = Check.type(x, row(6, 255, 3));
      int otherPart = Check.type(x, row(6, 255, 3, l, 4));
      two(x, all, others, NONE);
      two(x, others, all, 0);
      two(x, all, one, NONE);
      two(x, one, others, 0);
      two(x, one, none, NONE);
      two(x, none, one, 0);
      two(x, all, otherPart, 1, l);
      two(x, otherPart, others, NONE);
    }
  }

  private static void choiceLabels() {
    for (int l = 0; l < 8; l++) {
      Counted x = new Counted();
      int none = Check.type(x, 7, 0);
      int one = Check.type(x, row(7, 1 << l, 3));
      int others = Check.type(x, row(7, 255 & ~(1 << l), 3));
      int all = Check.type(x, row(7, 255, 3));
      int otherPart = Check.type(x, row(7, 255, 3, l, 4));
      two(x, others, all, NONE);
      two(x, all, others, 0);
      two(x, one, all, NONE);
      two(x, others, one, 0);
      two(x, none, one, NONE);
      two(x, one, none, 0);
      two(x, otherPart, all, 1, l);
      two(x, others, otherPart, NONE);
    }
  }

  private static void functionParts() {
    Counted x = new Counted();
    int intInt = Check.type(x, 5, 3, 3);
    int allInt = Check.type(x, 5, 1, 3);
    int intNothing = Check.type(x, 5, 3, 2);
    int nothingAll = Check.type(x, 5, 2, 1);
    two(x, allInt, intInt, NONE);
    two(x, intInt, allInt, 1, 0);
    two(x, intNothing, intInt, NONE);
    two(x, intInt, intNothing, 1, 1);
    two(x, intInt, nothingAll, NONE);
    two(x, nothingAll, intInt, 1, 0);
    two(x, nothingAll, intNothing, 1, 0);
    two(x, allInt, intNothing, 1, 1);
  }

  private static void greatest() {
    Counted x = new Counted();
    int one = Check.type(x, 8, 0, 5, 9, 0, 9, 0);
    int two = Check.type(x, 8, 0, 5, 9, 0, 5, 9, 0, 9, 0);
    two(x, one, one, NONE);
    two(x, one, two, NONE);
    two(x, two, one, NONE);
    int record = Check.type(x, 8, 0, 6, 2, 0, 9, 0, 7, 9, 0);
    int wider = Check.type(x, 8, 0, 6, 3, 0, 9, 0, 3, 3, 7, 9, 0);
    two(x, wider, record, NONE);
    two(x, record, wider, 0);
    int choice = Check.type(x, 8, 0, 7, 2, 0, 9, 0, 7, 9, 0);
    int narrower = Check.type(x, 8, 0, 7, 1, 7, 9, 0);
    two(x, narrower, choice, NONE);
    two(x, choice, narrower, 0);
  }

  private static void seenAtSight() {
    Counted x = new Counted();
    int record = Check.type(x, 6, 2, 0, 3, 1, 3);
    int fewer = Check.type(x, 6, 1, 0, 4);
    int function = Check.type(x, 5, 3, 3);
    // That labels lack goes before that parts do not fit.
    two(x, fewer, record, 0);
    two(x, record, fewer, 1, 0);
    two(x, record, function, 0);
    two(x, function, record, 0);
  }

  private static void leastDepth() {
    Counted x = new Counted();
    // Part 0 fails at 2, part 7 at 0, all others fit.
    int a = Check.type(x, 6, 3, 0, 6, 1, 0, 6, 1, 0, 3, 3, 3, 7, 3);
    int b = Check.type(x, 6, 3, 0, 6, 1, 0, 6, 1, 0, 4, 3, 3, 7, 4);
    two(x, a, b, 1, 7);
    two(x, b, a, 1, 7);
    int c = Check.type(x, 6, 2, 0, 6, 1, 0, 6, 1, 0, 3, 7, 1);
    two(x, a, c, NONE);
    two(x, b, c, 3, 0, 0, 0);
  }

  private static void leastLabel() {
    Counted x = new Counted();
    int ints = Check.type(x, row(6, 255, 3));
    int bools = Check.type(x, row(6, 255, 4));
    two(x, ints, bools, 1, 0);
    for (int l = 0; l < 8; l++) {
      int from = 255 & -(1 << l);
      int some = Check.type(x, row(6, from, 4));
      two(x, ints, some, 1, l);
      two(x, bools, some, NONE);
    }
    int f = Check.type(x, 5, 3, 3);
    int g = Check.type(x, 5, 4, 4);
    two(x, f, g, 1, 0);
  }

  /**
   * Rings of 31 and 64 records. Only one of the first lacks label 1, and only one of the second asks for it: these two
   * meet at the last of all pairs.
   */
  private static void longestWay(int before) {
    Counted x = new Counted();
    Check.fill(x, before);
    Check.feed(x, 8, 0);
    Check.feed(x, Check.times(30, 6, 2, 0));
    Check.feed(x, 6, 1, 0, 9, 0);
    int a = Check.type(x, Check.times(30, 1, 9, 0));
    Check.feed(x, 8, 0);
    Check.feed(x, Check.times(63, 6, 1, 0));
    int b = Check.type(x, 6, 2, 0, 9, 0, 1, 1);
    CHECK.due("count(0)", x.count(0), before + 96);
    CHECK.due("below", x.below(a, b), 0);
    CHECK.due("depth", x.depth(a, b), 31 * 64 - 1);
    CHECK.due("the last step", x.way(a, b, 31 * 64 - 2), 0);
    CHECK.due("a step behind", x.way(a, b, 31 * 64 - 1), NONE);
    CHECK.due("depth, asked again", x.depth(a, b), 31 * 64 - 1);
    CHECK.due("from the next pair on", x.depth(a + 1, b + 1), 31 * 64 - 2);
    CHECK.due("from the last pair on", x.depth(a + 30, b + 63), 0);
  }

  /** The first nodes of all, and the last of 200. */
  private static void longestWays() {
    longestWay(0);
    longestWay(104);
  }

  private static void noSuchStep() {
    Counted x = new Counted();
    int deep = Check.type(x, 6, 1, 2, 6, 1, 5, 3);
    int other = Check.type(x, 6, 1, 2, 6, 1, 5, 4);
    two(x, deep, other, 2, 2, 5);
    int[] behind = {-1, -2, 2, 3, 256, GREATEST, LEAST};
    for (int k : behind) {
      CHECK.due("of depth 2: way " + k, x.way(deep, other, k), NONE);
    }
    int[] any = {-1, 0, 1, GREATEST, LEAST};
    for (int k : any) {
      CHECK.due("of depth 0: way " + k, x.way(deep + 2, deep, k), NONE);
      CHECK.due("of two that are BELOW: way " + k, x.way(deep, deep, k), NONE);
    }
  }

  private static void noSuchNodes() {
    Counted x = new Counted();
    int[] none = {-1, -2, 1, 2, 199, 200, 255, 256, GREATEST, LEAST};
    CHECK.due("no nodes: below(0, 0)", x.below(0, 0), BAD);
    Check.type(x, 3);
    for (int n : none) {
      CHECK.due("below(0, " + n + ")", x.below(0, n), BAD);
      CHECK.due("below(" + n + ", 0)", x.below(n, 0), BAD);
      CHECK.due("below(" + n + ", " + n + ")", x.below(n, n), BAD);
    }
    CHECK.due("below(0, 0)", x.below(0, 0), 1);
  }

  private static void noDepth() {
    Counted x = new Counted();
    int[] none = {-1, -2, 1, 2, 199, 200, 255, 256, GREATEST, LEAST};
    CHECK.due("no nodes: depth(0, 0)", x.depth(0, 0), BAD);
    Check.type(x, 3);
    for (int n : none) {
      CHECK.due("depth(0, " + n + ")", x.depth(0, n), BAD);
      CHECK.due("depth(" + n + ", 0)", x.depth(n, 0), BAD);
      CHECK.due("depth(" + n + ", " + n + ")", x.depth(n, n), BAD);
    }
    CHECK.due("depth(0, 0)", x.depth(0, 0), NONE);
  }

  /** Without such nodes it is BAD whatever the step. */
  private static void noWay() {
    Counted x = new Counted();
    int[] none = {-1, 1, 200, GREATEST, LEAST};
    int[] steps = {0, 1, -1, GREATEST, LEAST};
    CHECK.due("no nodes: way(0, 0, 0)", x.way(0, 0, 0), BAD);
    Check.type(x, 3);
    for (int n : none) {
      for (int k : steps) {
        CHECK.due("way(0, " + n + ", " + k + ")", x.way(0, n, k), BAD);
        CHECK.due("way(" + n + ", 0, " + k + ")", x.way(n, 0, k), BAD);
        CHECK.due("way(" + n + ", " + n + ", " + k + ")", x.way(n, n, k), BAD);
      }
    }
    CHECK.due("way(0, 0, 0)", x.way(0, 0, 0), NONE);
  }

  /** The last node there can be is one, and the next is none. */
  private static void lastNodes() {
    Counted x = new Counted();
    Check.fill(x, 194);
    int a = Check.type(x, 5, 3, 4);
    int b = Check.type(x, 5, 3, 3);
    CHECK.due("the last nodes", b, 197);
    two(x, a, b, 1, 1);
    two(x, b, a, 1, 1);
    two(x, 199, 198, NONE);
    two(x, 198, 199, NONE);
    two(x, 199, 199, NONE);
    two(x, 199, 0, x.node(0, 0) == 2 ? NONE : 0);
    two(x, 196, 199, 0);
    CHECK.due("below(199, 200)", x.below(199, 200), BAD);
    CHECK.due("depth(200, 199)", x.depth(200, 199), BAD);
    CHECK.due("way(200, 200, 0)", x.way(200, 200, 0), BAD);
    x.clear();
    CHECK.due("after clear(): below(199, 199)", x.below(199, 199), BAD);
    CHECK.due("after clear(): below(0, 0)", x.below(0, 0), BAD);
  }

  public static void main(String[] args) {
    CHECK.edge("a is NOTHING; b is ALL; both are INT, or BOOL", OrderEdgesTest::kinds);
    CHECK.edge("both are FUNCTIONS, b's part 0 is BELOW a's, a's part 1 BELOW b's", OrderEdgesTest::functionParts);
    CHECK.edge("both are RECORDS, a has all LABELS of b", OrderEdgesTest::recordLabels);
    CHECK.edge("both are CHOICES, b has all LABELS of a", OrderEdgesTest::choiceLabels);
    CHECK.edge("BELOW: the greatest relation of NODES", OrderEdgesTest::greatest);
    CHECK.edge("0 if that is seen of their KINDS and LABELS alone", OrderEdgesTest::seenAtSight);
    CHECK.edge("else one more than the least DEPTH of two parts of them", OrderEdgesTest::leastDepth);
    CHECK.edge("Whether a is BELOW b (1 or 0). BAD: no such NODES.", OrderEdgesTest::noSuchNodes);
    CHECK.edge("The DEPTH of two; NONE: a is BELOW b. BAD.", OrderEdgesTest::noDepth);
    CHECK.edge("(the least; of FUNCTIONS 0, 1)", OrderEdgesTest::leastLabel);
    CHECK.edge("Step k of the way to what does not fit", OrderEdgesTest::longestWays);
    CHECK.edge("NONE: there is no such step. BAD.", OrderEdgesTest::noSuchStep);
    CHECK.edge("there is no such step. BAD.", OrderEdgesTest::noWay);
    CHECK.edge("200 at most", OrderEdgesTest::lastNodes);
    CHECK.end();
  }
}
