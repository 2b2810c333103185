/** Promises 11 and 12: unite, meet. */
final class BoundsTest {
  private static final int BAD = RoundTypes.BAD, FULL = RoundTypes.FULL;
  private static final Check CHECK = new Check();

  private static void plain() {
    Counted x = new Counted();
    // 0 1 ALL, 2 3 NOTHING, 4 5 INT, 6 7 BOOL
    for (int i = 0; i < 8; i++) {
      Check.type(x, i / 2 + 1);
    }
    int[][] united = {{0, 0, 0}, {0, 1, 0}, {1, 0, 1}, {0, 2, 0}, {2, 0, 0}, {2, 3, 3}, {3, 2, 2}, {2, 2, 2}, {2, 4, 4},
        {4, 2, 4}, {4, 5, 4}, {5, 4, 5}, {6, 7, 6}, {7, 6, 7}, {0, 4, 0}, {4, 1, 1}, {6, 3, 6}};
    for (int[] row : united) {
      CHECK.due("unite(" + row[0] + ", " + row[1] + ")", x.unite(row[0], row[1]), row[2]);
    }
    int[][] met = {{0, 0, 0}, {0, 1, 1}, {1, 0, 0}, {0, 2, 2}, {2, 0, 2}, {2, 3, 2}, {3, 2, 3}, {2, 4, 2}, {4, 2, 2},
        {4, 5, 4}, {5, 4, 5}, {6, 7, 6}, {0, 4, 4}, {4, 1, 4}, {6, 3, 3}};
    for (int[] row : met) {
      CHECK.due("meet(" + row[0] + ", " + row[1] + ")", x.meet(row[0], row[1]), row[2]);
    }
    CHECK.due("no nodes for these", x.count(0), 8);
    CHECK.due("INT and BOOL united", x.unite(4, 6), 8);
    CHECK.node(x, 8, 0, 0);
    CHECK.due("again: another asking", x.unite(4, 6), 9);
    CHECK.due("BOOL and INT met", x.meet(6, 4), 10);
    CHECK.node(x, 10, 1, 0);
    CHECK.due("count(0)", x.count(0), 11);
  }

  private static void functions() {
    Counted x = new Counted();
    int a = Check.type(x, 5, 3, 4);
    int b = Check.type(x, 5, 4, 3);
    CHECK.due("functions united", x.unite(a, b), 6);
    CHECK.node(x, 6, 4, 3, 7, 8);
    CHECK.node(x, 7, 1, 0);
    CHECK.node(x, 8, 0, 0);
    CHECK.due("functions met", x.meet(a, b), 9);
    CHECK.node(x, 9, 4, 3, 10, 11);
    CHECK.node(x, 10, 0, 0);
    CHECK.node(x, 11, 1, 0);
    int c = Check.type(x, 5, 3, 4);
    CHECK.due("like functions united: a node all the same", x.unite(a, c), 15);
    CHECK.node(x, 15, 4, 3, 1, 2);
    CHECK.due("one with itself", x.unite(a, a), a);
    CHECK.due("one with itself, met", x.meet(c, c), c);
    CHECK.due("a function and a number", x.unite(a, 1), 16);
    CHECK.node(x, 16, 0, 0);
    CHECK.due("a number and a function, met", x.meet(1, a), 17);
    CHECK.node(x, 17, 1, 0);
  }

  private static void records() {
    Counted x = new Counted();
    int a = Check.type(x, 6, 3, 1, 3, 2, 3, 4, 4);
    int b = Check.type(x, 6, 3, 0, 4, 2, 4, 4, 4);
    CHECK.due("records united", x.unite(a, b), 8);
    CHECK.node(x, 8, 5, 20, 9, 3);
    CHECK.node(x, 9, 0, 0);
    CHECK.due("records united, turned", x.unite(b, a), 10);
    CHECK.node(x, 10, 5, 20, 11, 7);
    CHECK.due("records met", x.meet(a, b), 12);
    CHECK.node(x, 12, 5, 23, 5, 1, 13, 3);
    CHECK.node(x, 13, 1, 0);
    int none = Check.type(x, 6, 0);
    CHECK.due("with an empty one", x.unite(a, none), 15);
    CHECK.node(x, 15, 5, 0);
    CHECK.due("with an empty one, met", x.meet(none, a), 16);
    CHECK.node(x, 16, 5, 22, 1, 2, 3);
    x.clear();
    int itself = Check.type(x, 8, 0, 6, 1, 5, 9, 0);
    int other = Check.type(x, 6, 1, 2, 3);
    CHECK.due("node 0 as a part", x.meet(other, itself), 3);
    CHECK.node(x, 3, 5, 36, 2, 0);
  }

  private static void choices() {
    Counted x = new Counted();
    int a = Check.type(x, 7, 3, 1, 3, 2, 3, 4, 4);
    int b = Check.type(x, 7, 3, 0, 4, 2, 4, 4, 4);
    CHECK.due("choices united", x.unite(a, b), 8);
    CHECK.node(x, 8, 6, 23, 5, 1, 9, 3);
    CHECK.node(x, 9, 0, 0);
    CHECK.due("choices met", x.meet(a, b), 10);
    CHECK.node(x, 10, 6, 20, 11, 3);
    CHECK.node(x, 11, 1, 0);
    int record = Check.type(x, 6, 1, 2, 3);
    CHECK.due("a choice and a record", x.unite(a, record), 14);
    CHECK.node(x, 14, 0, 0);
    CHECK.due("a record and a choice, met", x.meet(record, a), 15);
    CHECK.node(x, 15, 1, 0);
    CHECK.due("count(0)", x.count(0), 16);
  }

  /** All that is in a part comes before the next part. */
  private static void orderOfNodes() {
    Counted x = new Counted();
    int a = Check.type(x, 6, 2, 0, 6, 2, 0, 3, 1, 3, 1, 6, 1, 0, 3);
    int b = Check.type(x, 6, 2, 0, 6, 2, 0, 4, 1, 4, 1, 6, 1, 0, 4);
    CHECK.due("unite", x.unite(a, b), 12);
    CHECK.node(x, 12, 5, 3, 13, 16);
    CHECK.node(x, 13, 5, 3, 14, 15);
    CHECK.node(x, 14, 0, 0);
    CHECK.node(x, 15, 0, 0);
    CHECK.node(x, 16, 5, 1, 17);
    CHECK.node(x, 17, 0, 0);
  }

  /** The same two, in the same order and way, are one node in one asking. */
  private static void again() {
    Counted x = new Counted();
    // Both parts of each are one node, by an 8 around both.
    int a = Check.type(x, 8, 0, 6, 2, 0, 9, 0, 1, 9, 0);
    int b = Check.type(x, 8, 0, 6, 3, 0, 9, 0, 1, 9, 0, 2, 3);
    CHECK.due("unite", x.unite(a, b), 3);
    CHECK.node(x, 3, 5, 3, 3, 3);
    CHECK.due("meet", x.meet(b, a), 4);
    CHECK.node(x, 4, 5, 7, 4, 4, 2);
    CHECK.due("count(0)", x.count(0), 5);
    x.clear();
    // From and to are one: the from is MET, the to UNITED, and turned again in the next.
    int f = Check.type(x, 8, 0, 5, 9, 0, 9, 0);
    int g = Check.type(x, 8, 0, 5, 9, 0, 9, 0);
    CHECK.due("round functions", x.unite(f, g), 2);
    CHECK.node(x, 2, 4, 3, 3, 2);
    CHECK.node(x, 3, 4, 3, 2, 3);
    CHECK.due("count(0)", x.count(0), 4);
    CHECK.due("they fit", x.below(2, f), 1);
    CHECK.due("and back", x.below(g, 3), 1);
    x.clear();
    // Two that come in both orders are two nodes.
    int p = Check.type(x, 8, 0, 6, 1, 0, 6, 1, 0, 9, 0);
    CHECK.due("unite", x.unite(p, p + 1), 2);
    CHECK.node(x, 2, 5, 1, 3);
    CHECK.node(x, 3, 5, 1, 2);
    CHECK.due("count(0)", x.count(0), 4);
    x.clear();
    // A plain node made for two is found again, too: records whose two parts are one variable's type.
    Check.type(x, 3);
    Check.type(x, 4);
    CHECK.due("a record of INT twice", Check.term(x, 21, 0, 29, 2, 0, 20, 0, 1, 20, 0), 3);
    CHECK.due("a record of BOOL twice", Check.term(x, 21, 1, 29, 2, 0, 20, 0, 1, 20, 0), 5);
    CHECK.due("unite", x.unite(2, 4), 6);
    CHECK.node(x, 6, 5, 3, 7, 7);
    CHECK.node(x, 7, 0, 0);
    CHECK.due("count(0)", x.count(0), 8);
  }

  private static void full() {
    Counted x = new Counted();
    int a = Check.type(x, 5, 3, 4);
    int b = Check.type(x, 5, 4, 3);
    Check.fill(x, 198);
    CHECK.due("three where two have room", x.unite(a, b), FULL);
    CHECK.due("nothing came", x.count(0), 198);
    CHECK.due("three where two have room, met", x.meet(a, b), FULL);
    CHECK.due("nothing came", x.count(0), 198);
    CHECK.due("one has room", x.unite(a, 1), 198);
    CHECK.due("and one", x.meet(1, 2), 199);
    CHECK.due("none more", x.unite(1, 2), FULL);
    CHECK.due("none needed", x.unite(1, 5), 1);
    CHECK.due("none needed", x.meet(198, 1), 1);
    CHECK.due("count(0)", x.count(0), 200);
    CHECK.node(x, a, 4, 3, 1, 2);
  }

  private static void justFull() {
    Counted x = new Counted();
    int a = Check.type(x, 5, 3, 4);
    int b = Check.type(x, 5, 4, 3);
    Check.fill(x, 197);
    CHECK.due("three where three have room", x.unite(a, b), 197);
    CHECK.due("count(0)", x.count(0), 200);
    CHECK.node(x, 197, 4, 3, 198, 199);
  }

  private static void wrong() {
    Counted x = new Counted();
    Check.type(x, 3);
    int[] bad = {-1, 1, 200, Integer.MAX_VALUE, Integer.MIN_VALUE};
    for (int n : bad) {
      CHECK.due("unite(0, " + n + ")", x.unite(0, n), BAD);
      CHECK.due("unite(" + n + ", 0)", x.unite(n, 0), BAD);
      CHECK.due("meet(0, " + n + ")", x.meet(0, n), BAD);
      CHECK.due("meet(" + n + ", " + n + ")", x.meet(n, n), BAD);
    }
    CHECK.due("count(0)", x.count(0), 1);
  }

  public static void main(String[] args) {
    plain();
    functions();
    records();
    choices();
    orderOfNodes();
    again();
    full();
    justFull();
    wrong();
    CHECK.end();
  }
}
