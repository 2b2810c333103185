import java.util.Arrays;

/** The sentences of promise 5, and of what TERMS are, that name an edge, each with a test of its own. */
final class TermEdgesTest {
  private static final int NONE = RoundTypes.NONE, FULL = RoundTypes.FULL, ODD = RoundTypes.ODD, SHORT = RoundTypes.SHORT,
      LONG = RoundTypes.LONG, MISFIT = RoundTypes.MISFIT;
  private static final int LEAST = Integer.MIN_VALUE, GREATEST = Integer.MAX_VALUE;
  /** The nodes of a base(). */
  private static final int CHOICE = 0, INT = 3, BOOL = 4, INT_INT = 5, NOTHING = 8, ALL = 9, EMPTY = 10, RECORD = 11, LAST = 12,
      BASE = 14;
  private static final Check CHECK = new Check();

  /**
   * 0 a choice of 0 INT and 4 BOOL, 3 INT, 4 BOOL, 5 INT to INT, 8 NOTHING, 9 ALL, 10 a choice of none, 11 a record of
   * none, 12 a choice of 7 INT.
   */
  private static Counted base() {
    Counted x = new Counted();
    int[][] texts = {{7, 2, 0, 3, 4, 4}, {3}, {4}, {5, 3, 3}, {2}, {1}, {7, 0}, {6, 0}, {7, 1, 7, 3}};
    for (int[] text : texts) {
      Check.type(x, text);
    }
    return x;
  }

  private static void fault(int what, int where, int... text) {
    Counted x = base();
    String name = Arrays.toString(text);
    CHECK.due("term() of " + name, Check.term(x, text), what);
    CHECK.due("place() of " + name, x.place(), where);
    CHECK.due("count(0) after " + name, x.count(0), BASE);
    CHECK.due("count(4) after " + name, x.count(4), 0);
  }

  /** A term without a fault: its type's node, and the kinds of the nodes that came. */
  private static Counted good(int node, int[] kinds, int... text) {
    Counted x = base();
    String name = Arrays.toString(text);
    CHECK.due("term() of " + name, Check.term(x, text), node);
    CHECK.due("place() of " + name, x.place(), NONE);
    CHECK.due("count(0) after " + name, x.count(0), BASE + kinds.length);
    CHECK.due("count(4) after " + name, x.count(4), 1);
    for (int i = 0; i < kinds.length; i++) {
      CHECK.due("kind of " + (BASE + i) + " of " + name, x.node(BASE + i, 0), kinds[i]);
    }
    return x;
  }

  private static int[] kinds(int... kinds) {
    return kinds;
  }

  /** Terms without a fault. */
  private static int[][] goodTexts() {
    return new int[][] {{26}, {27}, {23, 5}, {29, 0}, {21, INT, 20, 0}, {24, 23, 1, 23, 2}, {25, 23, 1, 23, 2},
        {28, 26, 23, 1, 23, 2}, {22, 21, INT, 20, 0, 23, 5}, {29, 2, 0, 26, 7, 27}, {30, 7, 29, 2, 0, 26, 7, 27},
        {31, CHOICE, 4, 26}, {32, 2, 0, 20, 0, 4, 23, 1, 31, CHOICE, 4, 26}, {33, INT_INT, 21, INT, 22, 20, 1, 20, 0},
        {21, EMPTY, 32, 0, 20, 0}};
  }

  private static void words() {
    int[] odd = {19, 34, 0, 9, -1, -20, 276, LEAST, GREATEST};
    for (int word : odd) {
      fault(ODD, 0, word);
      fault(ODD, 1, 22, word);
      fault(ODD, 2, 21, INT, word);
      fault(ODD, 2, 24, 26, word);
      fault(ODD, 3, 28, 26, 26, word);
      fault(ODD, 3, 29, 1, 0, word);
      fault(ODD, 2, 32, 0, word);
      fault(ODD, 3, 32, 1, 0, word);
    }
  }

  private static void shortTexts() {
    for (int[] text : goodTexts()) {
      for (int length = 0; length < text.length; length++) {
        fault(SHORT, length, Arrays.copyOf(text, length));
      }
    }
    fault(SHORT, 200, Check.times(200, 22));
    fault(SHORT, 200, Check.times(100, 21, INT));
  }

  private static void longTexts() {
    int[] behind = {0, 26, 34, LEAST};
    for (int[] text : goodTexts()) {
      good(text);
      for (int n : behind) {
        fault(LONG, text.length, Check.join(text, Check.text(n)));
      }
    }
    fault(LONG, 199, Check.join(Check.times(66, 28), Check.times(133, 26), Check.text(26)));
  }

  private static void good(int[] text) {
    CHECK.due("term() of " + Arrays.toString(text), Check.term(base(), text) >= 0 ? 1 : 0, 1);
  }

  /** As many terms, and as deep ones, as a text can hold. */
  private static void fullTexts() {
    Counted x = base();
    CHECK.due("199 terms", Check.term(x, Check.join(Check.times(66, 28), Check.times(133, 26))), BASE + 131);
    CHECK.due("a node for each of 133", x.count(0), BASE + 133);
    fault(MISFIT, 98, Check.join(Check.text(28), Check.times(98, 24), Check.times(101, 26)));
    Counted y = base();
    CHECK.due("100 deep", Check.term(y, Check.join(Check.times(99, 21, INT), Check.text(20, 98))), BASE + 98);
    CHECK.due("count(0)", y.count(0), BASE + 99);
    CHECK.due("the innermost", y.node(BASE, 3), INT);
    CHECK.due("the outermost", y.node(BASE + 98, 3), BASE + 97);
    // The last of 200 numbers is a term: each first E is false, so that it is the one chosen.
    Counted z = base();
    CHECK.due("a word at the end", Check.term(z, Check.join(Check.times(66, 28), Check.times(131, 27), Check.text(23, 1, 26))), BASE + 133);
    CHECK.due("count(0)", z.count(0), BASE + 134);
    CHECK.due("its value is BOOL", z.value(z.run(20000), 0), 3);
    CHECK.due("and true", z.value(z.count(2) - 1, 1), 1);
    Counted w = base();
    int[] itself = {33, ALL, 21, INT, 26};
    CHECK.due("a body at the end", Check.term(w, Check.join(Check.times(65, 28), Check.times(130, 27), itself)), ALL);
    CHECK.due("its value is a function", w.value(w.run(20000), 0), 4);
    Counted v = base();
    int[] number = Check.join(Check.times(64, 28), Check.times(127, 27), Check.text(23, 1, 23, 2));
    CHECK.due("a part at the end", Check.term(v, Check.join(Check.text(29, 2, 0), number, Check.text(1, 26))), BASE + 130);
    CHECK.node(v, BASE + 130, 5, 3, BASE + 127, BASE + 129);
    CHECK.due("it is BOOL", v.node(BASE + 129, 0), 3);
  }

  private static void tooGreat() {
    int[] never = {-1, -2, 256, GREATEST, LEAST};
    for (int k : never) {
      fault(ODD, 1, 20, k);
      fault(ODD, 3, 21, INT, 20, k);
      fault(ODD, 5, 21, INT, 21, BOOL, 20, k);
    }
    fault(ODD, 1, 20, 0);
    fault(ODD, 3, 21, INT, 20, 1);
    good(BASE + 1, kinds(4, 4), 21, INT, 21, BOOL, 20, 1);
    fault(ODD, 5, 21, INT, 21, BOOL, 20, 2);
    fault(ODD, 199, Check.join(Check.times(99, 21, INT), Check.text(20, 99)));
    // Nothing of a 21 is bound behind it, nor what was bound in the TERM before.
    fault(ODD, 6, 22, 21, INT, 20, 0, 20, 0);
    Counted x = base();
    Check.term(x, 21, INT, 20, 0);
    CHECK.due("another term", Check.term(x, 20, 0), ODD);
    // In a 33 two are bound in its 21, in a 32 one in each E but the last.
    good(INT_INT, kinds(4), 33, INT_INT, 21, INT, 22, 20, 1, 20, 0);
    fault(ODD, 5, 33, INT_INT, 21, INT, 20, 2);
    fault(ODD, 4, 32, 1, 0, 20, 1, 26);
    fault(ODD, 5, 32, 1, 0, 26, 20, 0);
    fault(ODD, 3, 32, 0, 20, 0);
    fault(ODD, 7, 32, 2, 0, 20, 0, 4, 20, 1, 26);
  }

  private static void noNode() {
    int[] none = {-1, -2, BASE, BASE + 1, 200, 256, GREATEST, LEAST};
    for (int t : none) {
      fault(ODD, 1, 21, t, 26);
      fault(ODD, 1, 31, t, 0, 26);
      fault(ODD, 1, 33, t, 21, 0, 26);
      fault(ODD, 3, 21, 0, 21, t, 26);
    }
    good(BASE + 1, kinds(3, 4), 21, 0, 26);
    good(BASE + 1, kinds(3, 4), 21, BASE - 1, 26);
    Counted x = new Counted();
    CHECK.due("no nodes at all", Check.term(x, 21, 0, 26), ODD);
    CHECK.due("its place", x.place(), 1);
    CHECK.due("no nodes at all", Check.term(x, 31, 0, 0, 26), ODD);
    CHECK.due("no nodes at all", Check.term(x, 33, 0, 21, 0, 26), ODD);
    Check.fill(x, 200);
    CHECK.due("200 is none", Check.term(x, 21, 200, 26), ODD);
    CHECK.due("199 is one", Check.term(x, 21, 199, 26), FULL);
  }

  private static void noChoice() {
    int[] others = {INT, BOOL, INT_INT, NOTHING, ALL, RECORD};
    for (int t : others) {
      fault(ODD, 1, 31, t, 0, 26);
      fault(ODD, 1, 31, t);
      fault(ODD, 1, 31, t, 99);
    }
    good(CHOICE, kinds(2), 31, CHOICE, 0, 23, 1);
    good(LAST, kinds(2), 31, LAST, 7, 23, 1);
  }

  private static void noSuchLabel() {
    int[] odd = {1, 2, 3, 5, 6, 7, 8, -1, 32, 256, GREATEST, LEAST};
    for (int l : odd) {
      fault(ODD, 2, 31, CHOICE, l, 26);
    }
    for (int l = 0; l < 8; l++) {
      fault(ODD, 2, 31, EMPTY, l, 26);
      if (l < 7) {
        fault(ODD, 2, 31, LAST, l, 26);
      }
    }
  }

  private static void no21() {
    for (int word = 20; word <= 33; word++) {
      if (word != 21) {
        fault(ODD, 2, 33, INT_INT, word);
        fault(ODD, 2, 33, INT_INT, word, 0, 21, INT, 20, 0);
      }
    }
    fault(ODD, 2, 33, INT_INT, 34);
    fault(ODD, 2, 33, INT_INT, 0);
    fault(SHORT, 2, 33, INT_INT);
    good(INT_INT, kinds(4), 33, INT_INT, 21, INT, 20, 0);
  }

  private static void howMany() {
    int[] odd = {-1, 9, 10, 256, LEAST, GREATEST};
    for (int n : odd) {
      fault(ODD, 1, 29, n);
      fault(ODD, 1, 29, n, 0, 26);
      fault(ODD, 1, 32, n);
      fault(ODD, 1, 32, n, 0, 26, 26);
    }
    good(BASE, kinds(5), 29, 0);
    Counted x = good(BASE + 8, kinds(3, 3, 3, 3, 3, 3, 3, 3, 5), 29, 8, 0, 26, 1, 26, 2, 26, 3, 26, 4, 26, 5, 26, 6, 26, 7, 26);
    CHECK.node(x, BASE + 8, 5, 255, BASE, BASE + 1, BASE + 2, BASE + 3, BASE + 4, BASE + 5, BASE + 6, BASE + 7);
    fault(LONG, 18, 29, 8, 0, 26, 1, 26, 2, 26, 3, 26, 4, 26, 5, 26, 6, 26, 7, 26, 7);
  }

  /** A 32 of eight: the last E is another one than those. */
  private static void eightCases() {
    Counted x = new Counted();
    Check.type(x, 7, 8, 0, 3, 1, 3, 2, 3, 3, 3, 4, 3, 5, 3, 6, 3, 7, 4);
    for (int l = 0; l < 8; l++) {
      int before = x.count(0);
      Check.feed(x, 32, 8, 0, 20, 0, 1, 20, 0, 2, 20, 0, 3, 20, 0, 4, 20, 0, 5, 20, 0, 6, 20, 0, 7, 23, -1, 31, 0, l);
      // The E of a 31, the 23 of label 7; the first case's is the type.
      CHECK.due("of label " + l, l < 7 ? Check.term(x, 23, 40 + l) : Check.term(x, 26), 1);
      CHECK.due("nodes", x.count(0), before + 2);
      CHECK.due("its value", x.value(x.run(20000), 1), l < 7 ? 40 + l : -1);
    }
  }

  private static void labels() {
    int[] odd = {-1, 8, 9, 256, LEAST, GREATEST};
    for (int l : odd) {
      fault(ODD, 2, 29, 1, l, 26);
      fault(ODD, 4, 29, 2, 3, 26, l, 26);
      fault(ODD, 2, 32, 1, l, 26, 26);
      fault(ODD, 4, 32, 2, 3, 26, l, 26, 26);
      fault(ODD, 1, 30, l, 26);
    }
    for (int l = 0; l < 8; l++) {
      CHECK.node(good(BASE + 1, kinds(3, 5), 29, 1, l, 26), BASE + 1, 5, 1 << l, BASE);
      good(BASE, kinds(3, 5), 30, l, 29, 1, l, 26);
      good(BASE + 2, kinds(1, 3, 4), 21, NOTHING, 32, 1, l, 26, 20, 0);
    }
  }

  private static void labelsRise() {
    for (int first = 0; first < 8; first++) {
      for (int second = 0; second < 8; second++) {
        if (second <= first) {
          fault(ODD, 4, 29, 2, first, 26, second, 26);
          fault(ODD, 4, 32, 2, first, 26, second, 26, 26);
        } else {
          CHECK.due("rising", Check.term(base(), 29, 2, first, 26, second, 26), BASE + 2);
        }
      }
    }
    good(BASE + 3, kinds(3, 5, 3, 5), 29, 2, 3, 29, 1, 0, 26, 4, 26);
  }

  private static void anyNumber() {
    int[] any = {0, -1, 1, 20, 33, LEAST, GREATEST};
    for (int n : any) {
      Counted x = good(BASE, kinds(2), 23, n);
      CHECK.due("run(1)", x.run(1), 0);
      CHECK.due("the number " + n, x.value(0, 1), n);
    }
  }

  private static void firstMisfit() {
    // Each behind those in it, and from the left.
    fault(MISFIT, 1, 24, 24, 26, 26, 24, 26, 26);
    fault(MISFIT, 3, 24, 23, 1, 24, 26, 26);
    fault(MISFIT, 0, 24, 24, 23, 1, 23, 1, 26);
    fault(MISFIT, 2, 21, INT, 24, 20, 0, 26);
    fault(MISFIT, 4, 28, 23, 1, 26, 24, 26, 26);
    fault(MISFIT, 4, 28, 23, 1, 26, 30, 0, 26);
    fault(MISFIT, 0, 28, 23, 1, 26, 26);
    fault(MISFIT, 3, 31, CHOICE, 0, 24, 26, 26);
    fault(MISFIT, 4, 33, INT_INT, 21, INT, 24, 26, 26);
    fault(MISFIT, 0, 33, INT_INT, 21, INT, 26);
    // Of 32 the last E is done with first.
    fault(MISFIT, 6, 32, 1, 0, 24, 26, 26, 24, 27, 27);
    fault(MISFIT, 3, 32, 1, 0, 24, 26, 26, 31, CHOICE, 4, 26);
    fault(MISFIT, 3, 32, 2, 0, 24, 26, 26, 4, 24, 27, 27, 31, CHOICE, 4, 26);
    fault(MISFIT, 8, 32, 2, 0, 26, 4, 24, 23, 1, 24, 27, 27, 31, CHOICE, 4, 26);
  }

  /** ODD, SHORT and LONG go first, wherever they are. */
  private static void thenMisfit() {
    fault(ODD, 4, 22, 24, 26, 26, 34);
    fault(ODD, 5, 22, 24, 26, 26, 20, 0);
    fault(SHORT, 4, 22, 24, 26, 26);
    fault(LONG, 3, 24, 26, 26, 26);
    fault(LONG, 3, 24, 26, 26, 99);
    fault(MISFIT, 0, 24, 26, 26);
  }

  private static void applied() {
    fault(MISFIT, 0, 22, 23, 1, 23, 1);
    fault(MISFIT, 0, 22, 26, 26);
    fault(MISFIT, 2, 21, ALL, 22, 20, 0, 26);
    fault(MISFIT, 2, 21, CHOICE, 22, 20, 0, 26);
    fault(MISFIT, 0, 22, 21, INT, 20, 0, 26);
    fault(MISFIT, 2, 21, ALL, 22, 21, INT, 20, 0, 20, 0);
    good(INT, kinds(4, 2), 22, 21, INT, 20, 0, 23, 1);
    good(ALL, kinds(4, 2), 22, 21, ALL, 20, 0, 23, 1);
    CHECK.due("by NOTHING", good(BASE + 1, kinds(4, 4), 21, NOTHING, 22, 21, INT, 20, 0, 20, 0).node(BASE + 1, 3), INT);
    Counted x = good(BASE + 1, kinds(3, 4), 21, NOTHING, 22, 20, 0, 26);
    CHECK.due("NOTHING by what you like", x.node(BASE + 1, 3), NOTHING);
  }

  private static void belowInt() {
    for (int word = 24; word <= 25; word++) {
      int kind = word == 24 ? 2 : 3;
      good(BASE + 2, kinds(2, 2, kind), word, 23, 1, 23, 2);
      good(BASE + 1, kinds(kind, 4), 21, NOTHING, word, 20, 0, 20, 0);
      good(BASE + 1, kinds(kind, 4), 21, INT, word, 20, 0, 20, 0);
      int[] wrong = {BOOL, ALL, INT_INT, CHOICE, RECORD, EMPTY};
      for (int t : wrong) {
        fault(MISFIT, 2, 21, t, word, 20, 0, 23, 1);
        fault(MISFIT, 2, 21, t, word, 23, 1, 20, 0);
      }
    }
  }

  private static void belowBool() {
    int[] wrong = {INT, ALL, INT_INT, CHOICE, RECORD, EMPTY};
    for (int t : wrong) {
      fault(MISFIT, 2, 21, t, 28, 20, 0, 23, 1, 23, 1);
    }
    good(BASE + 2, kinds(2, 2, 4), 21, BOOL, 28, 20, 0, 23, 1, 23, 1);
    good(BASE + 2, kinds(2, 2, 4), 21, NOTHING, 28, 20, 0, 23, 1, 23, 1);
    good(BASE + 3, kinds(2, 3, 0, 4), 21, BOOL, 28, 20, 0, 23, 1, 26);
    good(BASE + 3, kinds(3, 2, 0, 4), 21, CHOICE, 28, 26, 20, 0, 23, 1);
  }

  private static void recordPart() {
    int[] wrong = {INT, BOOL, ALL, INT_INT, CHOICE, RECORD, EMPTY};
    for (int t : wrong) {
      fault(MISFIT, 2, 21, t, 30, 0, 20, 0);
    }
    for (int l = 0; l < 8; l++) {
      if (l == 3) {
        good(BASE, kinds(3, 5), 30, 3, 29, 1, 3, 26);
      } else {
        fault(MISFIT, 0, 30, l, 29, 1, 3, 26);
      }
      Counted x = good(BASE, kinds(4), 21, NOTHING, 30, l, 20, 0);
      CHECK.due("a part of NOTHING", x.node(BASE, 3), NOTHING);
    }
  }

  private static void choiceMade() {
    fault(MISFIT, 0, 31, CHOICE, 0, 26);
    fault(MISFIT, 0, 31, CHOICE, 4, 23, 1);
    fault(MISFIT, 2, 21, ALL, 31, CHOICE, 0, 20, 0);
    good(CHOICE, kinds(3), 31, CHOICE, 4, 26);
    Counted x = good(BASE, kinds(4), 21, NOTHING, 31, CHOICE, 4, 20, 0);
    CHECK.due("of NOTHING", x.node(BASE, 3), CHOICE);
  }

  private static void noOtherLabels() {
    fault(MISFIT, 0, 32, 0, 31, CHOICE, 4, 26);
    fault(MISFIT, 0, 32, 1, 4, 26, 31, CHOICE, 4, 26);
    fault(MISFIT, 0, 32, 1, 0, 26, 31, CHOICE, 4, 26);
    fault(MISFIT, 0, 32, 2, 1, 26, 4, 26, 31, CHOICE, 4, 26);
    fault(MISFIT, 0, 32, 1, 6, 26, 31, LAST, 7, 23, 1);
    good(BASE + 1, kinds(3, 3, 3), 32, 2, 0, 26, 4, 26, 31, CHOICE, 4, 26);
    // The last E's node, for a label more a NOTHING, the E's own.
    good(BASE + 2, kinds(2, 1, 3, 3), 32, 2, 0, 26, 7, 26, 31, LAST, 7, 23, 1);
    int[] wrong = {INT, BOOL, ALL, INT_INT, RECORD};
    for (int t : wrong) {
      fault(MISFIT, 2, 21, t, 32, 0, 20, 0);
      fault(MISFIT, 2, 21, t, 32, 1, 0, 26, 20, 0);
    }
  }

  private static void withoutAny() {
    Counted x = good(BASE + 1, kinds(1, 4), 21, EMPTY, 32, 0, 20, 0);
    CHECK.due("of a choice of none", x.node(BASE + 1, 3), BASE);
    x = good(BASE + 1, kinds(1, 4), 21, NOTHING, 32, 0, 20, 0);
    CHECK.due("of NOTHING it is a node more", x.node(BASE + 1, 3), BASE);
  }

  private static void noneSuch() {
    Counted x = good(BASE + 1, kinds(1, 4), 21, EMPTY, 32, 1, 7, 20, 0, 20, 0);
    CHECK.due("the variable's own node", x.node(BASE + 1, 3), BASE);
    // Each a node more, before its E; NOTHING with another NOTHING is the other.
    x = good(BASE + 2, kinds(1, 1, 4), 21, NOTHING, 32, 2, 0, 20, 0, 7, 20, 0, 20, 0);
    CHECK.due("the second one's", x.node(BASE + 2, 3), BASE + 1);
    x = good(BASE + 2, kinds(1, 3, 4), 21, NOTHING, 32, 1, 0, 26, 20, 0);
    CHECK.due("its E comes behind", x.node(BASE + 2, 3), BASE + 1);
    // Of what is no choice the variable is NOTHING, too, and the 32 itself does not fit.
    fault(MISFIT, 0, 32, 1, 0, 24, 20, 0, 20, 0, 26);
  }

  private static void unitedInTurn() {
    // BOOL with INT is ALL, and that with a record no node more.
    Counted x = good(BASE + 7, kinds(1, 3, 1, 2, 1, 5, 0, 4), 21, NOTHING, 32, 3, 0, 26, 1, 23, 1, 2, 29, 0, 20, 0);
    CHECK.due("the type of the 32", x.node(BASE + 7, 3), BASE + 6);
    // Records: the first with the second, then what came of that with the third; all Es come before.
    x = good(BASE + 11, kinds(1, 3, 5, 1, 2, 5, 1, 5, 5, 0, 5, 4), 21, NOTHING, 32, 3, 0, 29, 1, 0, 26, 1, 29, 1, 0, 23, 1, 2, 29,
        0, 20, 0);
    CHECK.node(x, BASE + 8, 5, 1, BASE + 9);
    CHECK.node(x, BASE + 10, 5, 0);
    CHECK.due("the type of the 32", x.node(BASE + 11, 3), BASE + 10);
    // One alone is with no other.
    x = good(BASE + 2, kinds(1, 3, 4), 21, NOTHING, 32, 1, 5, 26, 20, 0);
    CHECK.due("one alone", x.node(BASE + 2, 3), BASE + 1);
  }

  private static void belowItself() {
    good(INT_INT, kinds(4), 33, INT_INT, 21, INT, 20, 0);
    good(INT_INT, kinds(2, 4), 33, INT_INT, 21, ALL, 23, 1);
    good(ALL, kinds(4), 33, ALL, 21, INT, 20, 1);
    fault(MISFIT, 0, 33, INT_INT, 21, BOOL, 23, 1);
    fault(MISFIT, 0, 33, INT_INT, 21, INT, 26);
    int[] wrong = {INT, BOOL, NOTHING, CHOICE, RECORD, EMPTY};
    for (int t : wrong) {
      fault(MISFIT, 0, 33, t, 21, INT, 20, 0);
    }
  }

  private static void nodesEachTime() {
    good(BASE + 4, kinds(2, 2, 2, 2, 2), 24, 24, 23, 1, 23, 1, 23, 1);
    good(BASE + 3, kinds(3, 3, 3, 5), 29, 3, 0, 26, 1, 26, 2, 27);
    good(BASE + 2, kinds(2, 2, 3), 25, 23, 1, 23, 1);
    Counted x = good(BASE + 2, kinds(3, 4, 4), 21, INT, 21, INT, 26);
    CHECK.due("from", x.node(BASE + 2, 2), INT);
    x = base();
    CHECK.due("a term", Check.term(x, 26), BASE);
    CHECK.due("the same once more", Check.term(x, 26), BASE + 1);
  }

  /** A term that makes so many nodes, with room for just those and for one less. */
  private static void room(int needed, int... text) {
    for (int lacking = 0; lacking <= 1; lacking++) {
      Counted x = base();
      Check.term(x, 23, 77);
      int before = 200 - needed + lacking;
      Check.fill(x, before);
      String name = Arrays.toString(text) + ", lacking " + lacking;
      CHECK.due("term() of " + name, Check.term(x, text) >= 0 ? 0 : 1, lacking);
      CHECK.due("count(0) of " + name, x.count(0), lacking == 0 ? 200 : before);
      CHECK.due("place() of " + name, x.place(), NONE);
      CHECK.due("count(1) of " + name, x.count(1), 0);
      CHECK.due("the last one of before", x.node(before - 1, 0), 2);
      if (lacking == 1) {
        CHECK.due("FULL again", Check.term(x, text), FULL);
        CHECK.due("no node came", x.node(before, 0), NONE);
        x.run(1);
        CHECK.due("the term before stays", x.value(0, 1), 77);
        CHECK.due("a shorter term", Check.term(x, 26), before < 200 ? before : FULL);
        CHECK.due("its nodes", x.count(0), Math.min(before + 1, 200));
      }
    }
  }

  private static void tooFewNodes() {
    room(1, 23, 1);
    room(1, 26);
    room(1, 27);
    room(1, 29, 0);
    room(1, 21, INT, 20, 0);
    room(1, 33, INT_INT, 21, INT, 20, 0);
    room(3, 24, 23, 1, 23, 1);
    room(3, 25, 23, 1, 23, 1);
    room(3, 28, 26, 26, 26);
    room(4, 28, 26, 26, 23, 1);
    room(2, 29, 1, 0, 26);
    room(2, 22, 21, INT, 20, 0, 23, 1);
    room(1, 31, CHOICE, 0, 23, 1);
    room(2, 21, EMPTY, 32, 0, 20, 0);
    room(2, 21, EMPTY, 32, 1, 0, 20, 0, 20, 0);
    room(3, 21, NOTHING, 32, 2, 0, 20, 0, 1, 20, 0, 20, 0);
    room(4, 32, 2, 0, 23, 1, 4, 26, 31, CHOICE, 4, 26);
    room(133, Check.join(Check.times(66, 28), Check.times(133, 26)));
  }

  /** FULL is told only of a text that is a TERM. */
  private static void fullBehindFaults() {
    Counted x = base();
    Check.fill(x, 200);
    int[][] texts = {{}, {34}, {21, 200, 26}, {22, 26}, {26, 26}, {20, 0}, {31, INT, 0, 26}, {33, INT, 26}};
    int[] faults = {SHORT, ODD, ODD, SHORT, LONG, ODD, ODD, ODD};
    int[] places = {0, 0, 1, 2, 1, 1, 1, 2};
    for (int i = 0; i < texts.length; i++) {
      CHECK.due("term() of " + Arrays.toString(texts[i]), Check.term(x, texts[i]), faults[i]);
      CHECK.due("place() of " + Arrays.toString(texts[i]), x.place(), places[i]);
    }
    CHECK.due("a good one", Check.term(x, 26), FULL);
    CHECK.due("count(0)", x.count(0), 200);
  }

  private static void noNodesOfFaults() {
    Counted x = base();
    // Some nodes have come when the fault is seen.
    CHECK.due("MISFIT", Check.term(x, 24, 24, 23, 1, 23, 1, 28, 26, 26, 23, 1), MISFIT);
    CHECK.due("count(0)", x.count(0), BASE);
    CHECK.due("the next node", x.node(BASE, 0), NONE);
    CHECK.due("numbered on from there", Check.type(x, 6, 0), BASE);
    CHECK.node(x, BASE, 5, 0);
  }

  private static void termBeforeStays() {
    // Some end while terms are open; what comes next does not go on there.
    int[][] faults = {{}, {34}, {22}, {26, 26}, {29, 2, 5, 22, 26, 34}, {21, INT, 20, 1}, {32, 1, 0, 28, 26}, {22, 24, 26, 26, 26},
        {24, 26, 26}, {21, 99, 26}};
    int[] whats = {SHORT, ODD, SHORT, LONG, ODD, ODD, SHORT, MISFIT, MISFIT, ODD};
    int[] places = {0, 0, 1, 1, 5, 3, 5, 1, 0, 1};
    Counted x = base();
    CHECK.due("no term yet", x.count(4), 0);
    for (int i = 0; i < faults.length; i++) {
      CHECK.due("fault " + i, Check.term(x, faults[i]), whats[i]);
      CHECK.due("its place", x.place(), places[i]);
      CHECK.due("no term", x.count(4), 0);
    }
    CHECK.due("a term", Check.term(x, 24, 23, 40, 23, 2), BASE + 2);
    CHECK.due("there is one", x.count(4), 1);
    for (int i = faults.length - 1; i >= 0; i--) {
      CHECK.due("fault " + i, Check.term(x, faults[i]), whats[i]);
      CHECK.due("its place", x.place(), places[i]);
      CHECK.due("it stays", x.count(4), 1);
      CHECK.due("and is done", x.run(3), 2);
      CHECK.due("as before", x.value(2, 1), 42);
    }
    CHECK.due("type() leaves it", Check.type(x, 3), BASE + 3);
    CHECK.due("so does its fault", Check.type(x, 0), ODD);
    CHECK.due("it stays", x.run(3), 2);
    CHECK.due("another term", Check.term(x, 26), BASE + 4);
    CHECK.due("is the one now", x.run(3), 0);
    CHECK.due("its kind", x.value(0, 0), 3);
  }

  public static void main(String[] args) {
    CHECK.edge("ODD, SHORT, LONG as above", TermEdgesTest::words);
    CHECK.edge("SHORT, LONG as above", TermEdgesTest::shortTexts);
    CHECK.edge("LONG as above", TermEdgesTest::longTexts);
    CHECK.edge("THE TEXT is a TERM: the NODE of its TYPE", TermEdgesTest::fullTexts);
    CHECK.edge("k too great for what is bound", TermEdgesTest::tooGreat);
    CHECK.edge("t no NODE", TermEdgesTest::noNode);
    CHECK.edge("the t of 31 no CHOICE", TermEdgesTest::noChoice);
    CHECK.edge("its l none of that", TermEdgesTest::noSuchLabel);
    CHECK.edge("what is no 21 behind 33 t", TermEdgesTest::no21);
    CHECK.edge("29 n, n times a LABEL (rising) and E: a RECORD.", TermEdgesTest::howMany);
    CHECK.edge("32 n, n times a LABEL (rising) and E, and then E", TermEdgesTest::eightCases);
    CHECK.edge("30 l E: its part.", TermEdgesTest::labels);
    CHECK.edge("n times a LABEL (rising) and E", TermEdgesTest::labelsRise);
    CHECK.edge("23 n: a number.", TermEdgesTest::anyNumber);
    CHECK.edge("the first by the order in which terms are done with (each behind those in it), at its word.",
        TermEdgesTest::firstMisfit);
    CHECK.edge("Then MISFIT", TermEdgesTest::thenMisfit);
    CHECK.edge("or the first's is NOTHING: NOTHING.", TermEdgesTest::applied);
    CHECK.edge("24, 25: both BELOW INT", TermEdgesTest::belowInt);
    CHECK.edge("28: the first's is BELOW BOOL", TermEdgesTest::belowBool);
    CHECK.edge("30: the RECORD'S part, or NOTHING if it is NOTHING.", TermEdgesTest::recordPart);
    CHECK.edge("31: E's is BELOW its part: t.", TermEdgesTest::choiceMade);
    CHECK.edge("the last one's is a CHOICE with no other LABELS than those, or NOTHING", TermEdgesTest::noOtherLabels);
    CHECK.edge("all others' UNITED, the first one with the second, that with the third, and so on", TermEdgesTest::unitedInTurn);
    CHECK.edge("NOTHING without any", TermEdgesTest::withoutAny);
    CHECK.edge("or NOTHING if it has none such.", TermEdgesTest::noneSuch);
    CHECK.edge("33: E's is BELOW t: t.", TermEdgesTest::belowItself);
    CHECK.edge("are NODES more each time", TermEdgesTest::nodesEachTime);
    CHECK.edge("FULL: too few NODES", TermEdgesTest::tooFewNodes);
    CHECK.edge("FULL, behind these", TermEdgesTest::fullBehindFaults);
    CHECK.edge("no NODES come for a TERM with a fault.", TermEdgesTest::noNodesOfFaults);
    CHECK.edge("(the TERM before stays)", TermEdgesTest::termBeforeStays);
    CHECK.end();
  }
}
