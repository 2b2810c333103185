/** The sentences of promises 1, 2, 3, 6 and 15 that name an edge, each with a test of its own. */
final class TextEdgesTest {
  private static final int NONE = RoundTypes.NONE, BAD = RoundTypes.BAD, FULL = RoundTypes.FULL, ODD = RoundTypes.ODD,
      SHORT = RoundTypes.SHORT, LONG = RoundTypes.LONG, MISFIT = RoundTypes.MISFIT;
  private static final int LEAST = Integer.MIN_VALUE, GREATEST = Integer.MAX_VALUE;
  private static final Check CHECK = new Check();

  /** 200 numbers, a type of 198 nodes. */
  private static int[] fullText() {
    return Check.join(Check.text(6, 1, 0), Check.chain(197));
  }

  private static void newObject() {
    Counted x = new Counted();
    for (int what = 0; what <= 4; what++) {
      CHECK.due("count(" + what + ")", x.count(what), 0);
    }
    CHECK.due("node(0, 0)", x.node(0, 0), NONE);
    CHECK.due("below(0, 0)", x.below(0, 0), BAD);
    CHECK.due("depth(0, 0)", x.depth(0, 0), BAD);
    CHECK.due("way(0, 0, 0)", x.way(0, 0, 0), BAD);
    CHECK.due("unite(0, 0)", x.unite(0, 0), BAD);
    CHECK.due("meet(0, 0)", x.meet(0, 0), BAD);
    CHECK.due("run(0)", x.run(0), BAD);
    CHECK.due("value(0, 0)", x.value(0, 0), NONE);
    CHECK.due("clear()", x.clear(), 0);
    CHECK.due("type() of no numbers", x.type(), SHORT);
    CHECK.due("term() of no numbers", x.term(), SHORT);
    CHECK.due("feed(3)", x.feed(3), 1);
  }

  private static void twoObjects() {
    Counted x = new Counted();
    Counted y = new Counted();
    Check.type(x, 5, 3, 4);
    Check.feed(x, 1, 2);
    Check.term(y, 26);
    y.run(1);
    CHECK.due("another object's count(0)", y.count(0), 1);
    CHECK.due("another object's count(1)", y.count(1), 0);
    CHECK.due("the first one's count(2)", x.count(2), 0);
    CHECK.due("the first one's count(4)", x.count(4), 0);
  }

  private static void feedFull() {
    Counted x = new Counted();
    int[] text = fullText();
    for (int i = 0; i < 200; i++) {
      CHECK.due("feed, number " + (i + 1), x.feed(text[i]), i + 1);
    }
    CHECK.due("feed, number 201", x.feed(3), FULL);
    CHECK.due("feed, number 202", x.feed(LEAST), FULL);
    CHECK.due("count(1)", x.count(1), 200);
    CHECK.due("what was refused is not in the text", x.type(), 0);
    CHECK.due("its nodes", x.count(0), 198);
    CHECK.due("then there is room again", x.feed(9), 1);
  }

  private static void feedAny() {
    Counted x = new Counted();
    int[] any = {LEAST, GREATEST, -1, 0, 1, 255, 65536};
    for (int i = 0; i < any.length; i++) {
      CHECK.due("feed(" + any[i] + ")", x.feed(any[i]), i + 1);
    }
    CHECK.due("count(1)", x.count(1), any.length);
  }

  /** Whatever came of it, and however far it was read: nothing of it is read again. */
  private static void emptyThen() {
    Counted x = new Counted();
    CHECK.due("a good type", Check.type(x, 3), 0);
    CHECK.due("then count(1)", x.count(1), 0);
    CHECK.due("ODD in the midst", Check.type(x, 5, 3, 77, 3, 3), ODD);
    CHECK.due("then count(1)", x.count(1), 0);
    CHECK.due("a function that lacks a part", Check.type(x, 5, 3), SHORT);
    CHECK.due("then count(1)", x.count(1), 0);
    CHECK.due("the part alone", Check.type(x, 3), 1);
    CHECK.due("a good term", Check.term(x, 23, 7), 2);
    CHECK.due("then count(1)", x.count(1), 0);
    CHECK.due("MISFIT", Check.term(x, 24, 26, 26), MISFIT);
    CHECK.due("then count(1)", x.count(1), 0);
    CHECK.due("LONG", Check.term(x, 26, 26), LONG);
    CHECK.due("then count(1)", x.count(1), 0);
    Check.fill(x, 200);
    CHECK.due("FULL", Check.type(x, 3), FULL);
    CHECK.due("then count(1)", x.count(1), 0);
    CHECK.due("FULL of a term", Check.term(x, 26), FULL);
    CHECK.due("then count(1)", x.count(1), 0);
  }

  private static void clearCounts() {
    Counted x = new Counted();
    CHECK.due("of none", x.clear(), 0);
    Check.type(x, 3);
    CHECK.due("of one", x.clear(), 1);
    CHECK.due("again", x.clear(), 0);
    Check.fill(x, 200);
    CHECK.due("of 200", x.clear(), 200);
    CHECK.due("again", x.clear(), 0);
    CHECK.due("numbered from 0 again", Check.type(x, 6, 0), 0);
    CHECK.due("labels of the new node 0", x.node(0, 1), 0);
    Check.fill(x, 200);
    CHECK.due("200 again", x.count(0), 200);
    CHECK.due("and none more", Check.type(x, 3), FULL);
  }

  private static void clearForgets() {
    Counted x = new Counted();
    Check.type(x, 5, 3, 3);
    Check.term(x, 24, 23, 1, 23, 2);
    x.run(20000);
    CHECK.due("count(2) before", x.count(2), 3);
    CHECK.due("count(3) before", x.count(3), 3);
    x.clear();
    int[] none = {0, 2, 3, 4};
    for (int what : none) {
      CHECK.due("count(" + what + ")", x.count(what), 0);
    }
    CHECK.due("node(0, 0)", x.node(0, 0), NONE);
    CHECK.due("value(0, 0)", x.value(0, 0), NONE);
    CHECK.due("value(0, -1)", x.value(0, -1), BAD);
    CHECK.due("run(20000)", x.run(20000), BAD);
    CHECK.due("below(0, 0)", x.below(0, 0), BAD);
    CHECK.due("t is no NODE then", Check.term(x, 21, 0, 26), ODD);
    CHECK.due("a term with a fault is none", x.count(4), 0);
    CHECK.due("a new term", Check.term(x, 27), 0);
    CHECK.due("its run", x.run(1), 0);
    CHECK.due("its value", x.value(0, 1), 0);
  }

  private static void clearLeavesText() {
    Counted x = new Counted();
    x.clear();
    CHECK.due("an empty text stays so", x.count(1), 0);
    Check.feed(x, 5, 3);
    x.clear();
    CHECK.due("a part of a text", x.count(1), 2);
    CHECK.due("goes on", x.feed(4), 3);
    CHECK.due("and is whole", x.type(), 0);
    Check.feed(x, fullText());
    x.clear();
    CHECK.due("a full text", x.count(1), 200);
    CHECK.due("takes no more", x.feed(3), FULL);
    CHECK.due("and is read", x.type(), 0);
  }

  private static void placeBeforeAny() {
    Counted x = new Counted();
    CHECK.due("of a new object", x.place(), NONE);
    Check.feed(x, 77);
    x.clear();
    x.run(1);
    x.unite(0, 0);
    CHECK.due("before any type() or term()", x.place(), NONE);
  }

  private static void placeOfNone() {
    Counted x = new Counted();
    CHECK.due("a fault", Check.type(x, 0), ODD);
    CHECK.due("its place", x.place(), 0);
    Check.type(x, 3);
    CHECK.due("of a good type", x.place(), NONE);
    Check.type(x, 5);
    CHECK.due("of SHORT", x.place(), 1);
    Check.term(x, 26);
    CHECK.due("of a good term", x.place(), NONE);
    Check.term(x, 30, 0, 24, 26, 26);
    CHECK.due("of MISFIT", x.place(), 2);
    x.clear();
    x.feed(3);
    x.node(0, -1);
    CHECK.due("other calls have none", x.place(), 2);
  }

  private static void placeOfFull() {
    Counted x = new Counted();
    Check.fill(x, 200);
    CHECK.due("a fault", Check.type(x, 77), ODD);
    CHECK.due("its place", x.place(), 0);
    CHECK.due("FULL of a type", Check.type(x, 3), FULL);
    CHECK.due("its place", x.place(), NONE);
    CHECK.due("a fault of a term", Check.term(x, 26, 77), LONG);
    CHECK.due("its place", x.place(), 1);
    CHECK.due("FULL of a term", Check.term(x, 26), FULL);
    CHECK.due("its place", x.place(), NONE);
  }

  private static void placeAtTheEnds() {
    Counted x = new Counted();
    x.type();
    CHECK.due("of an empty type", x.place(), 0);
    Check.type(x, 3);
    x.term();
    CHECK.due("of an empty term", x.place(), 0);
    Check.type(x, Check.times(200, 5));
    CHECK.due("behind a full text", x.place(), 200);
    Check.term(x, Check.join(Check.times(199, 22), Check.text(1)));
    CHECK.due("at the last number", x.place(), 199);
  }

  private static void countBad() {
    Counted x = new Counted();
    Check.term(x, 26);
    x.run(1);
    Check.feed(x, 1, 2, 3);
    int[] good = {1, 3, 1, 1, 1};
    for (int what = 0; what < good.length; what++) {
      CHECK.due("count(" + what + ")", x.count(what), good[what]);
    }
    int[] bad = {-1, 5, 6, 255, 256, 65536, GREATEST, LEAST, LEAST + 4};
    for (int what : bad) {
      CHECK.due("count(" + what + ")", x.count(what), BAD);
    }
  }

  private static void callsInAll() {
    Counted x = new Counted();
    int[] text = Check.join(Check.text(8, 9), Check.chain(197));
    Check.feed(x, text);
    while (x.calls() < Counted.MOST - 3) {
      CHECK.due("count(1)", x.count(1), 199);
    }
    CHECK.due("call 510", x.type(), 0);
    CHECK.due("call 511", x.place(), NONE);
    CHECK.due("call 512", x.node(196, 0), 2);
    CHECK.due("calls", x.calls(), Counted.MOST);
  }

  public static void main(String[] args) {
    CHECK.edge("An object is used for at most 512 calls after it has been made", TextEdgesTest::callsInAll);
    CHECK.edge("No NODES, an empty TEXT, no TERM.", TextEdgesTest::newObject);
    CHECK.edge("`RoundTypes()`", TextEdgesTest::twoObjects);
    CHECK.edge("how many NODES there were.", TextEdgesTest::clearCounts);
    CHECK.edge("No NODES, no TERM, no VALUES and no STEPS told", TextEdgesTest::clearForgets);
    CHECK.edge("(THE TEXT stays.)", TextEdgesTest::clearLeavesText);
    CHECK.edge("THE TEXT takes numbers, 200 at most.", TextEdgesTest::feedFull);
    CHECK.edge("A number more. FULL. Else how many.", TextEdgesTest::feedAny);
    CHECK.edge("It is empty then.", TextEdgesTest::emptyThen);
    CHECK.edge("Where the fault of the latest type() or term() is", TextEdgesTest::placeAtTheEnds);
    CHECK.edge("NONE if it had none", TextEdgesTest::placeOfNone);
    CHECK.edge("(FULL: none either)", TextEdgesTest::placeOfFull);
    CHECK.edge("and before any.", TextEdgesTest::placeBeforeAny);
    CHECK.edge("BAD: another what.", TextEdgesTest::countBad);
    CHECK.end();
  }
}
