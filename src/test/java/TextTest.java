/** Promises 1, 2, 3, 6 and 15: a new object, clear, feed, place, count. */
final class TextTest {
  private static final Check CHECK = new Check();

  private static void newObject() {
    Counted x = new Counted();
    for (int what = 0; what <= 4; what++) {
      CHECK.due("new: count(" + what + ")", x.count(what), 0);
    }
    CHECK.due("new: place()", x.place(), RoundTypes.NONE);
    CHECK.due("new: node(0, 0)", x.node(0, 0), RoundTypes.NONE);
    CHECK.due("new: value(0, 0)", x.value(0, 0), RoundTypes.NONE);
    CHECK.due("new: below(0, 0)", x.below(0, 0), RoundTypes.BAD);
    CHECK.due("new: run(1)", x.run(1), RoundTypes.BAD);
    CHECK.due("new: clear()", x.clear(), 0);
  }

  private static void feed() {
    Counted x = new Counted();
    for (int i = 1; i <= 200; i++) {
      CHECK.due("feed, number " + i, x.feed(i % 2 == 0 ? Integer.MIN_VALUE : 3), i);
    }
    CHECK.due("feed, number 201", x.feed(3), RoundTypes.FULL);
    CHECK.due("feed, number 202", x.feed(-1), RoundTypes.FULL);
    CHECK.due("count(1) of a full text", x.count(1), 200);
    CHECK.due("clear() leaves the text", x.clear(), 0);
    CHECK.due("count(1) after clear()", x.count(1), 200);
    CHECK.due("type() of a full text", x.type(), RoundTypes.LONG);
    CHECK.due("its place", x.place(), 1);
    CHECK.due("count(1) after type()", x.count(1), 0);
    CHECK.due("feed after type()", x.feed(23), 1);
    CHECK.due("term()", x.term(), RoundTypes.SHORT);
    CHECK.due("count(1) after term()", x.count(1), 0);
    CHECK.due("feed after term()", x.feed(0), 1);
  }

  private static void clear() {
    Counted x = new Counted();
    Check.type(x, 5, 3, 4);
    CHECK.due("term()", Check.term(x, 24, 23, 1, 23, 2), 5);
    CHECK.due("run(10)", x.run(10), 2);
    CHECK.due("count(0)", x.count(0), 6);
    CHECK.due("count(2)", x.count(2), 3);
    CHECK.due("count(3)", x.count(3), 3);
    CHECK.due("count(4)", x.count(4), 1);
    Check.type(x, 3, 3, 3);
    Check.feed(x, 6, 0);
    CHECK.due("clear()", x.clear(), 6);
    CHECK.due("clear() leaves place()", x.place(), 1);
    CHECK.due("cleared: count(0)", x.count(0), 0);
    CHECK.due("cleared: count(1)", x.count(1), 2);
    CHECK.due("cleared: count(2)", x.count(2), 0);
    CHECK.due("cleared: count(3)", x.count(3), 0);
    CHECK.due("cleared: count(4)", x.count(4), 0);
    CHECK.due("cleared: value(0, 0)", x.value(0, 0), RoundTypes.NONE);
    CHECK.due("cleared: node(0, 0)", x.node(0, 0), RoundTypes.NONE);
    CHECK.due("cleared: run(10)", x.run(10), RoundTypes.BAD);
    CHECK.due("cleared: unite(0, 0)", x.unite(0, 0), RoundTypes.BAD);
    CHECK.due("the text that stayed", x.type(), 0);
    CHECK.due("its kind", x.node(0, 0), 5);
    CHECK.due("its labels are none of before", x.node(0, 1), 0);
    CHECK.due("clear() again", x.clear(), 1);
  }

  private static void place() {
    Counted x = new Counted();
    Check.type(x, 5, 3, 77);
    CHECK.due("place of ODD", x.place(), 2);
    CHECK.due("place once more", x.place(), 2);
    Check.type(x, 5, 3, 3);
    CHECK.due("place of a good type", x.place(), RoundTypes.NONE);
    Check.term(x, 24, 23, 1, 26);
    CHECK.due("place of MISFIT", x.place(), 0);
    x.unite(0, 0);
    x.run(1);
    CHECK.due("place is of type() and term() alone", x.place(), 0);
    Check.term(x, 23, 1);
    CHECK.due("place of a good term", x.place(), RoundTypes.NONE);
    Check.term(x);
    CHECK.due("place of an empty term", x.place(), 0);
  }

  private static void count() {
    Counted x = new Counted();
    int[] bad = {-1, 5, 6, Integer.MAX_VALUE, Integer.MIN_VALUE};
    for (int what : bad) {
      CHECK.due("count(" + what + ")", x.count(what), RoundTypes.BAD);
    }
  }

  public static void main(String[] args) {
    newObject();
    feed();
    clear();
    place();
    count();
    CHECK.end();
  }
}
