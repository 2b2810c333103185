/** The sentences of promises 11 and 12, and of UNITED and MET, that name an edge, each with a test of its own. */
final class BoundsEdgesTest {
  private static final int BAD = RoundTypes.BAD, FULL = RoundTypes.FULL, NONE = RoundTypes.NONE;
  private static final int LEAST = Integer.MIN_VALUE, GREATEST = Integer.MAX_VALUE;
  private static final Check CHECK = new Check();

  private static void withItself() {
    Counted x = new Counted();
    Check.type(x, 6, 7, 0, 1, 1, 2, 2, 3, 3, 4, 4, 5, 3, 4, 5, 7, 0, 6, 6, 0);
    int[] kinds = {5, 0, 1, 2, 3, 4, 2, 3, 6, 5};
    for (int k = 0; k < kinds.length; k++) {
      CHECK.due("kind of " + k, x.node(k, 0), kinds[k]);
      CHECK.due("unite(" + k + ", " + k + ")", x.unite(k, k), k);
      CHECK.due("meet(" + k + ", " + k + ")", x.meet(k, k), k);
    }
    CHECK.due("no node came", x.count(0), kinds.length);
  }

  /** 0 and 1 ALL, 2 and 3 NOTHING, then one of each other kind: 4 INT, 5 BOOL, 6 a function, 9 a record, 10 a choice. */
  private static Counted plain() {
    Counted x = new Counted();
    int[][] texts = {{1}, {1}, {2}, {2}, {3}, {4}, {5, 3, 4}, {6, 0}, {7, 0}};
    for (int[] text : texts) {
      Check.type(x, text);
    }
    return x;
  }

  private static final int[] OTHERS = {4, 5, 6, 9, 10};

  private static void unitedEnds() {
    Counted x = plain();
    for (int k : OTHERS) {
      CHECK.due("NOTHING with " + k, x.unite(2, k), k);
      CHECK.due(k + " with NOTHING", x.unite(k, 2), k);
      CHECK.due("ALL with " + k, x.unite(0, k), 0);
      CHECK.due(k + " with ALL", x.unite(k, 0), 0);
    }
    CHECK.due("ALL with NOTHING", x.unite(1, 2), 1);
    CHECK.due("NOTHING with ALL", x.unite(2, 1), 1);
    CHECK.due("no node came", x.count(0), 11);
  }

  private static void metEnds() {
    Counted x = plain();
    for (int k : OTHERS) {
      CHECK.due("ALL with " + k, x.meet(0, k), k);
      CHECK.due(k + " with ALL", x.meet(k, 0), k);
      CHECK.due("NOTHING with " + k, x.meet(2, k), 2);
      CHECK.due(k + " with NOTHING", x.meet(k, 2), 2);
    }
    CHECK.due("ALL with NOTHING", x.meet(1, 2), 2);
    CHECK.due("NOTHING with ALL", x.meet(2, 1), 2);
    CHECK.due("no node came", x.count(0), 11);
  }

  private static void firstLookedAt() {
    Counted x = plain();
    CHECK.due("NOTHING UNITED with NOTHING is the other", x.unite(2, 3), 3);
    CHECK.due("and turned", x.unite(3, 2), 2);
    CHECK.due("ALL UNITED with ALL is that", x.unite(0, 1), 0);
    CHECK.due("and turned", x.unite(1, 0), 1);
    CHECK.due("ALL MET with ALL is the other", x.meet(0, 1), 1);
    CHECK.due("and turned", x.meet(1, 0), 0);
    CHECK.due("NOTHING MET with NOTHING is that", x.meet(2, 3), 2);
    CHECK.due("and turned", x.meet(3, 2), 3);
    CHECK.due("no node came", x.count(0), 11);
  }

  private static void sameKind() {
    Counted x = new Counted();
    int[][] texts = {{3}, {3}, {4}, {4}};
    for (int[] text : texts) {
      Check.type(x, text);
    }
    for (int k = 0; k < 4; k++) {
      CHECK.due("unite " + k, x.unite(k, k ^ 1), k);
      CHECK.due("meet " + k, x.meet(k, k ^ 1), k);
    }
    CHECK.due("no node came", x.count(0), 4);
  }

  private static void otherwise() {
    for (int a : OTHERS) {
      for (int b : OTHERS) {
        if (a != b) {
          Counted x = plain();
          CHECK.due("unite(" + a + ", " + b + ")", x.unite(a, b), 11);
          CHECK.due("meet(" + a + ", " + b + ")", x.meet(a, b), 12);
          CHECK.node(x, 11, 0, 0);
          CHECK.node(x, 12, 1, 0);
          CHECK.due("one node each", x.count(0), 13);
        }
      }
    }
  }

  /** Records, or choices, of label l alone and of all others: parts INT (nodes 1 and 3 .. 9). */
  private static Counted apart(int word, int l) {
    Counted x = new Counted();
    Check.type(x, word, 1, l, 3);
    Check.feed(x, word, 7);
    for (int label = 0; label < 8; label++) {
      if (label != l) {
        Check.feed(x, label, 3);
      }
    }
    CHECK.due("the others", x.type(), 2);
    return x;
  }

  /** All eight parts of two that are apart: the one of label l is node 1. */
  private static int[] allParts(int l) {
    int[] parts = new int[8];
    for (int label = 0; label < 8; label++) {
      parts[label] = label == l ? 1 : label < l ? 3 + label : 2 + label;
    }
    return parts;
  }

  private static void noLabelsInCommon() {
    for (int l = 0; l < 8; l++) {
      Counted x = apart(6, l);
      CHECK.due("records UNITED", x.unite(0, 2), 10);
      CHECK.node(x, 10, 5, 0);
      CHECK.due("records MET", x.meet(2, 0), 11);
      CHECK.node(x, 11, 5, 255, allParts(l));
      CHECK.due("count(0)", x.count(0), 12);
    }
  }

  private static void noLabelsOfChoices() {
    for (int l = 0; l < 8; l++) {
      Counted x = apart(7, l);
      CHECK.due("choices UNITED", x.unite(2, 0), 10);
      CHECK.node(x, 10, 6, 255, allParts(l));
      CHECK.due("choices MET", x.meet(0, 2), 11);
      CHECK.node(x, 11, 6, 0);
      CHECK.due("count(0)", x.count(0), 12);
    }
  }

  private static void emptyOnes() {
    for (int word = 6; word <= 7; word++) {
      Counted x = new Counted();
      Check.type(x, word, 0);
      Check.type(x, word, 0);
      CHECK.due("two empty ones UNITED", x.unite(0, 1), 2);
      CHECK.node(x, 2, word - 1, 0);
      CHECK.due("two empty ones MET", x.meet(0, 1), 3);
      CHECK.node(x, 3, word - 1, 0);
    }
  }

  private static void allLabels() {
    Counted x = new Counted();
    int[] labels = {0, 1, 2, 3, 4, 5, 6, 7};
    for (int part = 3; part <= 4; part++) {
      Check.feed(x, 6, 8);
      for (int l : labels) {
        Check.feed(x, l, part);
      }
      x.type();
    }
    CHECK.due("eight and eight UNITED", x.unite(0, 9), 18);
    CHECK.node(x, 18, 5, 255, 19, 20, 21, 22, 23, 24, 25, 26);
    CHECK.due("part 7", x.node(26, 0), 0);
    CHECK.due("eight and eight MET", x.meet(9, 0), 27);
    CHECK.node(x, 27, 5, 255, 28, 29, 30, 31, 32, 33, 34, 35);
    CHECK.due("part 0", x.node(28, 0), 1);
    CHECK.due("count(0)", x.count(0), 36);
  }

  private static void functionsTurned() {
    Counted x = new Counted();
    Check.type(x, 5, 5, 3, 3, 3);
    Check.type(x, 5, 5, 4, 4, 4);
    CHECK.due("UNITED", x.unite(0, 5), 10);
    CHECK.node(x, 10, 4, 3, 11, 14);
    CHECK.node(x, 11, 4, 3, 12, 13);
    CHECK.due("the from of the from is UNITED", x.node(12, 0), 0);
    CHECK.due("the to of the from is MET", x.node(13, 0), 1);
    CHECK.due("the to is UNITED", x.node(14, 0), 0);
    CHECK.due("MET", x.meet(0, 5), 15);
    CHECK.due("the from of the from is MET", x.node(17, 0), 1);
    CHECK.due("the to of the from is UNITED", x.node(18, 0), 0);
    CHECK.due("the to is MET", x.node(19, 0), 1);
  }

  private static void oneAsking() {
    Counted x = new Counted();
    // Both parts of each are the root: the same two again, in both ways and in one.
    Check.type(x, 8, 0, 6, 2, 0, 9, 0, 7, 9, 0);
    Check.type(x, 8, 0, 6, 2, 0, 9, 0, 7, 9, 0);
    CHECK.due("UNITED", x.unite(0, 1), 2);
    CHECK.node(x, 2, 5, 129, 2, 2);
    CHECK.due("another asking", x.unite(0, 1), 3);
    CHECK.node(x, 3, 5, 129, 3, 3);
    CHECK.due("MET", x.meet(0, 1), 4);
    CHECK.node(x, 4, 5, 129, 4, 4);
    CHECK.due("the other order", x.unite(1, 0), 5);
    CHECK.node(x, 5, 5, 129, 5, 5);
    x.clear();
    // A ring of two: (0, 1), then (1, 0), which is another two, then (0, 1) again.
    Check.type(x, 8, 0, 6, 1, 7, 6, 1, 7, 9, 0);
    CHECK.due("in that order", x.unite(0, 1), 2);
    CHECK.node(x, 2, 5, 128, 3);
    CHECK.node(x, 3, 5, 128, 2);
    x.clear();
    // Functions of themselves: the same two, but UNITED and MET are told apart.
    Check.type(x, 8, 0, 5, 9, 0, 9, 0);
    Check.type(x, 8, 0, 5, 9, 0, 9, 0);
    CHECK.due("to be UNITED or MET", x.meet(0, 1), 2);
    CHECK.node(x, 2, 4, 3, 3, 2);
    CHECK.node(x, 3, 4, 3, 2, 3);
    CHECK.due("count(0)", x.count(0), 4);
  }

  private static void orderOfNodes() {
    Counted x = new Counted();
    Check.type(x, 6, 3, 0, 3, 3, 6, 1, 0, 3, 7, 3);
    Check.type(x, 6, 3, 0, 4, 3, 6, 1, 0, 4, 7, 4);
    CHECK.due("UNITED", x.unite(0, 5), 10);
    CHECK.node(x, 10, 5, 137, 11, 12, 14);
    CHECK.node(x, 12, 5, 1, 13);
    CHECK.due("MET", x.meet(0, 5), 15);
    CHECK.node(x, 15, 5, 137, 16, 17, 19);
    CHECK.node(x, 17, 5, 1, 18);
  }

  /** Two that need so many nodes, with room for just those and for one less; what has come before stays as it was. */
  private static void room(boolean united, int needed, int[] first, int[] second) {
    for (int lacking = 0; lacking <= 1; lacking++) {
      Counted x = new Counted();
      Check.type(x, 3);
      Check.type(x, 4);
      int a = Check.type(x, first);
      int b = Check.type(x, second);
      int before = 200 - needed + lacking;
      Check.fill(x, before);
      int answer = united ? x.unite(a, b) : x.meet(a, b);
      CHECK.due(needed + " nodes, lacking " + lacking, answer, lacking == 0 ? before : FULL);
      CHECK.due("count(0)", x.count(0), lacking == 0 ? 200 : before);
      CHECK.due("the next node", x.node(before, 0) == NONE ? 1 : 0, lacking);
      CHECK.due("the last before", x.node(before - 1, 1), 0);
      CHECK.due("place()", x.place(), NONE);
      CHECK.due("no text", x.count(1), 0);
      boolean one = x.count(0) < 200;
      CHECK.due("INT and BOOL then", united ? x.unite(0, 1) : x.meet(0, 1), one ? before : FULL);
      CHECK.due("count(0)", x.count(0), one ? before + 1 : 200);
    }
  }

  private static void fullUnited() {
    room(true, 1, Check.text(3), Check.text(4));
    room(true, 1, Check.text(6, 0), Check.text(6, 0));
    room(true, 1, Check.text(7, 1, 0, 3), Check.text(7, 1, 7, 3));
    room(true, 2, Check.text(7, 1, 0, 3), Check.text(7, 1, 0, 4));
    room(true, 3, Check.text(5, 3, 3), Check.text(5, 4, 4));
    room(true, 7, Check.text(5, 5, 3, 3, 5, 3, 3), Check.text(5, 5, 4, 4, 5, 4, 4));
    room(true, 144, ring(8), ring(9));
  }

  private static void fullMet() {
    room(false, 1, Check.text(3), Check.text(4));
    room(false, 1, Check.text(7, 0), Check.text(7, 0));
    room(false, 1, Check.text(6, 1, 0, 3), Check.text(6, 1, 7, 3));
    room(false, 2, Check.text(6, 1, 0, 3), Check.text(6, 1, 0, 4));
    room(false, 3, Check.text(5, 3, 3), Check.text(5, 4, 4));
    room(false, 7, Check.text(5, 5, 3, 3, 5, 3, 3), Check.text(5, 5, 4, 4, 5, 4, 4));
    room(false, 144, ring(8), ring(9));
  }

  /** A ring of p functions by their part 0; part 1 of each is the first. */
  private static int[] ring(int p) {
    return Check.join(Check.text(8, 0), Check.times(p, 5), Check.times(p + 1, 9, 0));
  }

  /** Rings of 9 and 10: each two of them come both UNITED and MET, 180 nodes in two rounds of 90. */
  private static void mostNodes() {
    Counted x = new Counted();
    Check.type(x, 1);
    Check.type(x, ring(9));
    Check.type(x, ring(10));
    CHECK.due("UNITED", x.unite(1, 10), 20);
    CHECK.due("count(0)", x.count(0), 200);
    CHECK.node(x, 20, 4, 3, 21, 20);
    CHECK.node(x, 21, 4, 3, 22, 110);
    CHECK.node(x, 109, 4, 3, 20, 110);
    CHECK.node(x, 110, 4, 3, 111, 110);
    CHECK.node(x, 198, 4, 3, 199, 110);
    CHECK.node(x, 199, 4, 3, 110, 20);
    CHECK.due("above the first", x.below(1, 20), 1);
    CHECK.due("above the second", x.below(10, 20), 1);
    CHECK.due("the last nodes", x.below(199, 198), 1);
    CHECK.due("none more", x.unite(198, 199), FULL);
    CHECK.due("none more, MET", x.meet(198, 199), FULL);
    CHECK.due("none needed", x.unite(199, 0), 0);
    CHECK.due("none needed, MET", x.meet(199, 0), 199);
    CHECK.due("none needed of one alone", x.unite(199, 199), 199);
    CHECK.due("count(0)", x.count(0), 200);
  }

  /** The last node of all is the one made for the same two again. */
  private static void againAtTheEnd() {
    Counted x = new Counted();
    Check.type(x, 8, 0, 6, 2, 0, 9, 0, 7, 9, 0);
    Check.type(x, 8, 0, 6, 2, 0, 9, 0, 7, 9, 0);
    Check.fill(x, 199);
    CHECK.due("UNITED", x.unite(0, 1), 199);
    CHECK.node(x, 199, 5, 129, 199, 199);
    CHECK.due("none more", x.meet(0, 1), FULL);
    CHECK.due("with the last", x.unite(199, 0), FULL);
    CHECK.due("of the last alone", x.meet(199, 199), 199);
  }

  /** What is said of two holds of nodes beyond 127, too. */
  private static void lateNodes() {
    Counted x = new Counted();
    Check.fill(x, 180);
    int a = Check.type(x, 6, 2, 0, 3, 1, 3);
    int b = Check.type(x, 6, 2, 0, 4, 2, 4);
    CHECK.due("UNITED", x.unite(a, b), 186);
    CHECK.node(x, 186, 5, 1, 187);
    CHECK.due("MET", x.meet(a, b), 188);
    CHECK.node(x, 188, 5, 7, 189, 182, 185);
    int c = Check.type(x, 7, 1, 0, 3);
    int d = Check.type(x, 7, 1, 1, 4);
    CHECK.due("choices UNITED", x.unite(c, d), 194);
    CHECK.node(x, 194, 6, 3, 191, 193);
    CHECK.due("choices MET", x.meet(c, d), 195);
    CHECK.node(x, 195, 6, 0);
  }

  private static void badUnited() {
    Counted x = new Counted();
    CHECK.due("no nodes", x.unite(0, 0), BAD);
    Check.type(x, 1);
    int[] bad = {-1, -2, 1, 2, 199, 200, 256, GREATEST, LEAST};
    for (int n : bad) {
      CHECK.due("unite(0, " + n + ")", x.unite(0, n), BAD);
      CHECK.due("unite(" + n + ", 0)", x.unite(n, 0), BAD);
      CHECK.due("unite(" + n + ", " + n + ")", x.unite(n, n), BAD);
    }
    CHECK.due("nothing came", x.count(0), 1);
    Check.fill(x, 200);
    CHECK.due("unite(199, 200) of 200", x.unite(199, 200), BAD);
    CHECK.due("unite(200, 0) of 200", x.unite(200, 0), BAD);
    CHECK.due("unite(199, 0) of 200", x.unite(199, 0), 0);
  }

  private static void badMet() {
    Counted x = new Counted();
    CHECK.due("no nodes", x.meet(0, 0), BAD);
    Check.type(x, 1);
    int[] bad = {-1, -2, 1, 2, 199, 200, 256, GREATEST, LEAST};
    for (int n : bad) {
      CHECK.due("meet(0, " + n + ")", x.meet(0, n), BAD);
      CHECK.due("meet(" + n + ", 0)", x.meet(n, 0), BAD);
      CHECK.due("meet(" + n + ", " + n + ")", x.meet(n, n), BAD);
    }
    CHECK.due("nothing came", x.count(0), 1);
    Check.fill(x, 200);
    CHECK.due("meet(199, 200) of 200", x.meet(199, 200), BAD);
    CHECK.due("meet(200, 0) of 200", x.meet(200, 0), BAD);
    CHECK.due("meet(199, 0) of 200", x.meet(199, 0), 199);
  }

  public static void main(String[] args) {
    CHECK.edge("Of a with itself: a.", BoundsEdgesTest::withItself);
    CHECK.edge("UNITED: if one is NOTHING the other; if one is ALL that", BoundsEdgesTest::unitedEnds);
    CHECK.edge("MET: if one is ALL the other; if one is NOTHING that", BoundsEdgesTest::metEnds);
    CHECK.edge("(a is looked at first)", BoundsEdgesTest::firstLookedAt);
    CHECK.edge("Else, both INT, or BOOL: a.", BoundsEdgesTest::sameKind);
    CHECK.edge("a FUNCTION of both parts 0 MET and parts 1 UNITED (of two that are MET: UNITED, MET).", BoundsEdgesTest::functionsTurned);
    CHECK.edge("a RECORD of the LABELS that both have, UNITED (MET: of all LABELS", BoundsEdgesTest::noLabelsInCommon);
    CHECK.edge("a CHOICE of all LABELS, likewise (MET: of those that both have).", BoundsEdgesTest::noLabelsOfChoices);
    CHECK.edge("a RECORD of the LABELS that both have", BoundsEdgesTest::emptyOnes);
    CHECK.edge("of all LABELS, those that both have being MET, others' parts as they are", BoundsEdgesTest::allLabels);
    CHECK.edge("Otherwise a NODE more, ALL (MET: NOTHING).", BoundsEdgesTest::otherwise);
    CHECK.edge("In one asking the same two that are to be UNITED (or MET) again, in that order, are the NODE that was made for them.",
        BoundsEdgesTest::oneAsking);
    CHECK.edge("A NODE comes before its parts; parts come by rising LABELS.", BoundsEdgesTest::orderOfNodes);
    CHECK.edge("FULL: nothing comes.", BoundsEdgesTest::fullUnited);
    CHECK.edge("Two MET: a NODE. BAD; FULL.", BoundsEdgesTest::fullMet);
    CHECK.edge("200 at most", BoundsEdgesTest::mostNodes);
    CHECK.edge("again, in that order, are the NODE that was made for them.", BoundsEdgesTest::againAtTheEnd);
    CHECK.edge("TYPES are NODES of a graph, numbered from 0 on", BoundsEdgesTest::lateNodes);
    CHECK.edge("Two UNITED: a NODE. BAD; FULL.", BoundsEdgesTest::badUnited);
    CHECK.edge("Two MET: a NODE. BAD", BoundsEdgesTest::badMet);
    CHECK.end();
  }
}
