import java.util.Arrays;

/** Promises 5 and 6: term, place. */
final class TermTest {
  private static final int NONE = RoundTypes.NONE, FULL = RoundTypes.FULL, ODD = RoundTypes.ODD, SHORT = RoundTypes.SHORT,
      LONG = RoundTypes.LONG, MISFIT = RoundTypes.MISFIT;
  /** The nodes of a base(). */
  private static final int INT = 0, BOOL = 1, INT_INT = 2, NOTHING = 5, ALL = 6, CHOICE = 7, EMPTY = 10, BASE = 11;
  private static final Check CHECK = new Check();

  /** 0 INT, 1 BOOL, 2 INT to INT, 5 NOTHING, 6 ALL, 7 a choice of 1 INT and 4 BOOL, 10 a choice of none. */
  private static Counted base() {
    Counted x = new Counted();
    Check.type(x, 3);
    Check.type(x, 4);
    Check.type(x, 5, 3, 3);
    Check.type(x, 2);
    Check.type(x, 1);
    Check.type(x, 7, 2, 1, 3, 4, 4);
    Check.type(x, 7, 0);
    return x;
  }

  private static void fault(int what, int where, int... text) {
    Counted x = base();
    Check.term(x, 26);
    x.run(5);
    String name = Arrays.toString(text);
    CHECK.due("term() of " + name, Check.term(x, text), what);
    CHECK.due("place() of " + name, x.place(), where);
    CHECK.due("count(0) after " + name, x.count(0), BASE + 1);
    CHECK.due("count(1) after " + name, x.count(1), 0);
    CHECK.due("count(4) after " + name, x.count(4), 1);
    CHECK.due("the term before stays after " + name, x.run(5), 0);
    CHECK.due("and is that after " + name, x.value(0, 0), 3);
  }

  /** A term without a fault: its type's node, and how many nodes came. */
  private static Counted good(int node, int came, int... text) {
    Counted x = base();
    String name = Arrays.toString(text);
    CHECK.due("term() of " + name, Check.term(x, text), node);
    CHECK.due("place() of " + name, x.place(), NONE);
    CHECK.due("count(0) after " + name, x.count(0), BASE + came);
    CHECK.due("count(4) after " + name, x.count(4), 1);
    return x;
  }

  private static void kind(Counted x, int k, int kind, int labels) {
    CHECK.due("kind of " + k, x.node(k, 0), kind);
    CHECK.due("labels of " + k, x.node(k, 1), labels);
  }

  private static void words() {
    fault(SHORT, 0);
    fault(ODD, 0, 19);
    fault(ODD, 0, 34);
    fault(ODD, 0, 1);
    fault(ODD, 0, -20);
    fault(SHORT, 1, 20);
    fault(ODD, 1, 20, 0);
    fault(ODD, 1, 20, -1);
    fault(ODD, 3, 21, 0, 20, 1);
    fault(ODD, 3, 21, 0, 20, Integer.MAX_VALUE);
    fault(SHORT, 1, 21);
    fault(ODD, 1, 21, BASE + 1);
    fault(ODD, 1, 21, -1, 26);
    fault(SHORT, 2, 21, 0);
    fault(SHORT, 2, 22, 26);
    fault(SHORT, 1, 23);
    fault(LONG, 2, 23, 1, 23);
    fault(LONG, 1, 26, 26);
    fault(SHORT, 3, 24, 23, 1);
    fault(SHORT, 3, 25, 23, 1);
    fault(SHORT, 3, 28, 26, 26);
    fault(ODD, 3, 28, 26, 26, 5);
  }

  private static void labels() {
    fault(SHORT, 1, 29);
    fault(ODD, 1, 29, 9);
    fault(ODD, 1, 29, -1);
    fault(SHORT, 2, 29, 1);
    fault(ODD, 2, 29, 1, 8, 26);
    fault(ODD, 2, 29, 1, -1, 26);
    fault(SHORT, 3, 29, 1, 0);
    fault(ODD, 4, 29, 2, 3, 26, 3, 26);
    fault(ODD, 4, 29, 2, 3, 26, 2, 26);
    fault(ODD, 4, 29, 2, 7, 26, 8, 26);
    fault(SHORT, 4, 29, 2, 7, 26);
    fault(SHORT, 1, 30);
    fault(ODD, 1, 30, 8, 26);
    fault(ODD, 1, 30, -1, 26);
    fault(SHORT, 2, 30, 7);
    fault(ODD, 1, 32, 9);
    fault(ODD, 1, 32, -1);
    fault(SHORT, 2, 32, 0);
    fault(ODD, 2, 32, 1, 8);
    fault(ODD, 4, 32, 2, 1, 26, 1, 26);
    fault(SHORT, 4, 32, 1, 1, 26);
  }

  private static void nodes() {
    fault(SHORT, 1, 31);
    fault(ODD, 1, 31, -1);
    fault(ODD, 1, 31, BASE + 1, 0, 26);
    fault(ODD, 1, 31, INT, 1, 26);
    fault(SHORT, 2, 31, CHOICE);
    fault(ODD, 2, 31, CHOICE, 0, 26);
    fault(ODD, 2, 31, CHOICE, 8, 26);
    fault(ODD, 2, 31, CHOICE, -1, 26);
    fault(ODD, 2, 31, EMPTY, 0, 26);
    fault(SHORT, 3, 31, CHOICE, 4);
    fault(SHORT, 1, 33);
    fault(ODD, 1, 33, BASE + 1, 21, 0, 26);
    fault(ODD, 1, 33, -1, 21, 0, 26);
    fault(SHORT, 2, 33, 0);
    fault(ODD, 2, 33, 0, 26);
    fault(ODD, 2, 33, 0, 33, 0, 21, 0, 26);
    // No node that the term itself will make is one yet.
    fault(ODD, 3, 21, 0, 21, BASE + 1, 26);
    Counted x = new Counted();
    CHECK.due("no nodes at all", Check.term(x, 21, 0, 26), ODD);
    CHECK.due("its place", x.place(), 1);
    CHECK.due("no term", x.count(4), 0);
  }

  /** What is bound where. */
  private static void bound() {
    good(BASE + 1, 2, 21, INT, 21, BOOL, 20, 1);
    fault(ODD, 5, 21, INT, 21, BOOL, 20, 2);
    fault(ODD, 5, 22, 21, INT, 26, 20, 0);
    // In a 33 it is itself, in its 21 the argument and then itself.
    good(INT_INT, 1, 33, INT_INT, 21, INT, 22, 20, 1, 20, 0);
    fault(ODD, 5, 33, INT_INT, 21, INT, 20, 2);
    // In a 32 each E but the last has one more.
    good(BASE + 1, 2, 21, CHOICE, 32, 2, 1, 20, 0, 4, 23, 1, 20, 0);
    fault(ODD, 6, 21, CHOICE, 32, 1, 1, 20, 2, 20, 0);
    fault(ODD, 5, 32, 1, 1, 26, 20, 0);
    fault(ODD, 4, 32, 1, 1, 20, 1, 26);
    fault(ODD, 9, 32, 2, 1, 20, 0, 4, 20, 0, 20, 0);
  }

  private static void plainTypes() {
    kind(good(BASE, 1, 23, Integer.MIN_VALUE), BASE, 2, 0);
    kind(good(BASE, 1, 26), BASE, 3, 0);
    kind(good(BASE, 1, 27), BASE, 3, 0);
    kind(good(BASE + 2, 3, 24, 23, 1, 23, 2), BASE + 2, 2, 0);
    kind(good(BASE + 2, 3, 25, 23, 1, 23, 2), BASE + 2, 3, 0);
    fault(MISFIT, 0, 24, 23, 1, 26);
    fault(MISFIT, 0, 24, 26, 23, 1);
    fault(MISFIT, 0, 25, 26, 23, 1);
    fault(MISFIT, 0, 25, 23, 1, 27);
    fault(MISFIT, 2, 21, ALL, 24, 20, 0, 23, 1);
    good(BASE + 2, 3, 21, NOTHING, 24, 20, 0, 23, 1);
    good(BASE + 1, 2, 21, NOTHING, 25, 20, 0, 20, 0);
    // The first by the order in which they are done with.
    fault(MISFIT, 1, 24, 24, 26, 26, 24, 27, 27);
    fault(MISFIT, 3, 24, 23, 1, 24, 27, 27);
  }

  private static void functionTypes() {
    Counted x = good(BASE + 1, 2, 21, BOOL, 23, 7);
    kind(x, BASE + 1, 4, 3);
    CHECK.due("from", x.node(BASE + 1, 2), BOOL);
    CHECK.due("to", x.node(BASE + 1, 3), BASE);
    good(INT, 2, 22, 21, INT, 20, 0, 23, 5);
    good(BASE, 3, 22, 21, INT, 24, 20, 0, 20, 0, 23, 5);
    fault(MISFIT, 0, 22, 21, INT, 20, 0, 26);
    fault(MISFIT, 0, 22, 23, 1, 23, 1);
    Counted y = good(BASE + 1, 2, 21, NOTHING, 22, 20, 0, 26);
    CHECK.due("NOTHING by anything is that node", y.node(BASE + 1, 3), NOTHING);
    good(ALL, 2, 22, 21, ALL, 20, 0, 26);
    good(INT_INT, 1, 33, INT_INT, 21, INT, 20, 0);
    good(INT_INT, 2, 33, INT_INT, 21, ALL, 22, 20, 1, 23, 1);
    fault(MISFIT, 0, 33, INT_INT, 21, INT, 26);
    fault(MISFIT, 0, 33, INT_INT, 21, BOOL, 23, 1);
    fault(MISFIT, 0, 33, INT, 21, INT, 20, 0);
    good(ALL, 1, 33, ALL, 21, INT, 20, 1);
  }

  private static void branchTypes() {
    good(BASE + 1, 3, 28, 26, 23, 1, 23, 2);
    Counted x = good(BASE + 3, 4, 28, 26, 23, 1, 26);
    kind(x, BASE + 3, 0, 0);
    fault(MISFIT, 0, 28, 23, 1, 23, 1, 23, 2);
    fault(MISFIT, 5, 28, 23, 1, 23, 1, 24, 26, 26);
    good(BASE + 1, 2, 21, NOTHING, 28, 20, 0, 20, 0, 23, 1);
    kind(good(BASE + 3, 4, 21, INT, 28, 26, 20, 0, 26), BASE + 2, 0, 0);
    Counted y = good(BASE + 7, 9, 28, 26, 29, 2, 0, 26, 1, 23, 1, 29, 2, 0, 23, 1, 2, 26);
    kind(y, BASE + 7, 5, 1);
    CHECK.due("the part of records united", y.node(BASE + 7, 2), BASE + 8);
  }

  private static void recordTypes() {
    Counted x = good(BASE + 2, 3, 29, 2, 1, 23, 1, 6, 26);
    kind(x, BASE + 2, 5, 66);
    CHECK.due("part 1", x.node(BASE + 2, 3), BASE);
    CHECK.due("part 6", x.node(BASE + 2, 8), BASE + 1);
    kind(good(BASE, 1, 29, 0), BASE, 5, 0);
    good(BASE + 1, 3, 30, 6, 29, 2, 1, 23, 1, 6, 26);
    fault(MISFIT, 0, 30, 5, 29, 2, 1, 23, 1, 6, 26);
    fault(MISFIT, 0, 30, 5, 23, 1);
    fault(MISFIT, 2, 21, CHOICE, 30, 1, 20, 0);
    Counted y = good(BASE, 1, 21, NOTHING, 30, 5, 20, 0);
    CHECK.due("a part of NOTHING is that node", y.node(BASE, 3), NOTHING);
  }

  private static void choiceTypes() {
    good(CHOICE, 1, 31, CHOICE, 4, 26);
    fault(MISFIT, 0, 31, CHOICE, 4, 23, 1);
    fault(MISFIT, 0, 31, CHOICE, 1, 26);
    good(BASE + 1, 2, 32, 2, 1, 20, 0, 4, 20, 0, 31, CHOICE, 4, 26);
    good(8, 2, 32, 2, 1, 20, 0, 4, 23, 3, 31, CHOICE, 4, 26);
    fault(MISFIT, 0, 32, 1, 4, 20, 0, 31, CHOICE, 4, 26);
    fault(MISFIT, 0, 32, 1, 1, 26, 31, CHOICE, 4, 26);
    fault(MISFIT, 0, 32, 1, 1, 26, 23, 1);
    fault(MISFIT, 0, 32, 1, 1, 23, 4, 31, CHOICE, 1, 23, 9);
    fault(MISFIT, 0, 32, 0, 23, 1);
    Counted x = good(BASE + 1, 2, 21, EMPTY, 32, 0, 20, 0);
    kind(x, BASE, 1, 0);
    kind(good(BASE + 1, 2, 21, NOTHING, 32, 0, 20, 0), BASE, 1, 0);
  }

  private static void sortOrder() {
    // The last E's nodes come first, a variable's before its E's, and what is united at the end.
    Counted x = good(BASE + 5, 6, 32, 3, 1, 23, 1, 4, 26, 5, 29, 0, 31, CHOICE, 1, 23, 9);
    int[] kinds = {2, 2, 3, 1, 5, 0};
    for (int i = 0; i < kinds.length; i++) {
      kind(x, BASE + i, kinds[i], 0);
    }
    good(8, 3, 32, 3, 1, 20, 0, 3, 20, 0, 4, 23, 2, 31, CHOICE, 1, 23, 9);
    // Of NOTHING all variables are NOTHING, each a node.
    good(BASE + 2, 3, 21, NOTHING, 32, 2, 0, 20, 0, 7, 20, 0, 20, 0);
    fault(MISFIT, 3, 32, 1, 1, 24, 26, 26, 23, 1);
    fault(MISFIT, 6, 32, 1, 1, 24, 26, 26, 24, 27, 27);
    fault(MISFIT, 0, 32, 1, 1, 24, 20, 0, 20, 0, 23, 1);
  }

  private static void full() {
    Counted x = base();
    Check.fill(x, 198);
    CHECK.due("three where two have room", Check.term(x, 24, 23, 1, 23, 2), FULL);
    CHECK.due("place() of FULL", x.place(), NONE);
    CHECK.due("nothing came", x.count(0), 198);
    CHECK.due("no term", x.count(4), 0);
    CHECK.due("two have room", Check.term(x, 21, INT, 23, 1), 199);
    CHECK.due("now full", x.count(0), 200);
    CHECK.due("one more", Check.term(x, 26), FULL);
    CHECK.due("the term stays", x.count(4), 1);
    CHECK.due("a fault of the text comes first", Check.term(x, 26, 26), LONG);
    CHECK.due("its place", x.place(), 1);
    CHECK.due("and its kind", x.run(1), 0);
    CHECK.due("a function", x.value(0, 0), 4);
  }

  private static void replaced() {
    Counted x = base();
    Check.term(x, 23, 1);
    x.run(9);
    Check.term(x, 27);
    CHECK.due("values are of the latest run", x.value(0, 0), 2);
    CHECK.due("the new term", x.run(9), 0);
    CHECK.due("its value", x.value(0, 0), 3);
  }

  public static void main(String[] args) {
    words();
    labels();
    nodes();
    bound();
    plainTypes();
    functionTypes();
    branchTypes();
    recordTypes();
    choiceTypes();
    sortOrder();
    full();
    replaced();
    CHECK.end();
  }
}
