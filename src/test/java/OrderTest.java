/** Promises 8, 9 and 10: below, depth, way. */
final class OrderTest {
  private static final int NONE = RoundTypes.NONE, BAD = RoundTypes.BAD;
  private static final Check CHECK = new Check();

  /** a against b: the depth, NONE if a is below, and the whole way. */
  private static void two(Counted x, int a, int b, int depth, int... way) {
    String name = "(" + a + ", " + b + ")";
    CHECK.due("below" + name, x.below(a, b), depth == NONE ? 1 : 0);
    CHECK.due("depth" + name, x.depth(a, b), depth);
    for (int k = 0; k < way.length; k++) {
      CHECK.due("way" + name + " " + k, x.way(a, b, k), way[k]);
    }
    int[] none = {-1, way.length, way.length + 1, Integer.MAX_VALUE, Integer.MIN_VALUE};
    for (int k : none) {
      CHECK.due("way" + name + " " + k, x.way(a, b, k), NONE);
    }
  }

  private static void plain() {
    Counted x = new Counted();
    for (int word = 1; word <= 4; word++) {
      Check.type(x, word);
    }
    Check.type(x, 5, 3, 3);
    Check.type(x, 6, 0);
    Check.type(x, 7, 0);
    int[] nodes = {0, 1, 2, 3, 4, 7, 8};
    for (int a : nodes) {
      for (int b : nodes) {
        two(x, a, b, a == b || a == 1 || b == 0 ? NONE : 0);
      }
    }
    Check.type(x, 3);
    Check.type(x, 4);
    two(x, 2, 9, NONE);
    two(x, 9, 2, NONE);
    two(x, 3, 10, NONE);
    two(x, 9, 10, 0);
  }

  private static void functions() {
    Counted x = new Counted();
    int intInt = Check.type(x, 5, 3, 3);
    int allNothing = Check.type(x, 5, 1, 2);
    int nothingAll = Check.type(x, 5, 2, 1);
    int boolInt = Check.type(x, 5, 4, 3);
    int intBool = Check.type(x, 5, 3, 4);
    int boolBool = Check.type(x, 5, 4, 4);
    two(x, allNothing, intInt, NONE);
    two(x, intInt, nothingAll, NONE);
    two(x, intInt, allNothing, 1, 0);
    two(x, nothingAll, intInt, 1, 0);
    two(x, intInt, boolInt, 1, 0);
    two(x, intInt, intBool, 1, 1);
    two(x, intInt, boolBool, 1, 0);
    int over = Check.type(x, 5, 5, 3, 1, 3);
    int under = Check.type(x, 5, 5, 3, 4, 3);
    two(x, over, under, NONE);
    two(x, under, over, 2, 0, 1);
  }

  private static void records() {
    Counted x = new Counted();
    int none = Check.type(x, 6, 0);
    int one = Check.type(x, 6, 1, 3, 3);
    int two = Check.type(x, 6, 2, 3, 3, 5, 4);
    int other = Check.type(x, 6, 2, 3, 1, 5, 4);
    two(x, two, one, NONE);
    two(x, one, two, 0);
    two(x, two, none, NONE);
    two(x, none, one, 0);
    two(x, two, other, NONE);
    two(x, other, two, 1, 3);
    two(x, other, one, 1, 3);
    int noChoice = Check.type(x, 7, 0);
    int left = Check.type(x, 7, 1, 3, 3);
    int both = Check.type(x, 7, 2, 3, 3, 5, 4);
    int wide = Check.type(x, 7, 2, 3, 1, 5, 1);
    two(x, left, both, NONE);
    two(x, both, left, 0);
    two(x, noChoice, left, NONE);
    two(x, left, noChoice, 0);
    two(x, both, wide, NONE);
    two(x, wide, both, 1, 3);
    two(x, left, one, 0);
    two(x, one, left, 0);
  }

  private static void nearest() {
    Counted x = new Counted();
    // Part 0 fails at 3, part 2 and part 5 at 1: the nearest goes before the least label.
    int a = Check.type(x, 6, 3, 0, 6, 1, 0, 6, 1, 0, 3, 2, 6, 1, 1, 3, 5, 6, 1, 4, 3);
    int b = Check.type(x, 6, 3, 0, 6, 1, 0, 6, 1, 0, 4, 2, 6, 1, 1, 4, 5, 6, 1, 4, 4);
    two(x, a, b, 2, 2, 1);
    // Both parts of one depth, and the second step is seen from the first.
    int c = Check.type(x, 6, 2, 1, 6, 2, 6, 3, 7, 3, 4, 6, 1, 0, 3);
    int d = Check.type(x, 6, 2, 1, 6, 2, 6, 3, 7, 4, 4, 6, 1, 0, 4);
    two(x, c, d, 2, 1, 7);
  }

  private static void round() {
    Counted x = new Counted();
    int once = Check.type(x, 8, 0, 6, 2, 0, 3, 1, 9, 0);
    int twice = Check.type(x, 8, 0, 6, 2, 0, 3, 1, 6, 2, 0, 3, 1, 9, 0);
    int behind = Check.type(x, 6, 2, 0, 3, 1, 8, 0, 6, 2, 0, 3, 1, 9, 0);
    int wrong = Check.type(x, 6, 2, 0, 3, 1, 6, 2, 0, 3, 1, 8, 0, 6, 2, 0, 4, 1, 9, 0);
    two(x, once, twice, NONE);
    two(x, twice, once, NONE);
    two(x, once, behind, NONE);
    two(x, behind, twice, NONE);
    two(x, once, wrong, 3, 1, 1, 0);
    two(x, wrong, twice, 3, 1, 1, 0);
    int self = Check.type(x, 8, 0, 5, 9, 0, 3);
    int self2 = Check.type(x, 8, 0, 5, 5, 9, 0, 3, 3);
    int turned = Check.type(x, 8, 0, 5, 9, 0, 4);
    two(x, self, self2, NONE);
    two(x, self2, self, NONE);
    two(x, self, turned, 1, 1);
  }

  /** A ring of p records by their part 0; the last one has a part 1. */
  private static int recordRing(Counted x, int p) {
    Check.feed(x, 8, 0);
    for (int i = 0; i < p - 1; i++) {
      Check.feed(x, 6, 1, 0);
    }
    Check.feed(x, 6, 2, 0, 9, 0, 1, 3);
    return x.type();
  }

  private static void far() {
    Counted x = new Counted();
    int a = recordRing(x, 41);
    int b = recordRing(x, 47);
    CHECK.due("depth of rings", x.depth(a, b), 46);
    CHECK.due("way of rings", x.way(a, b, 45), 0);
    CHECK.due("way behind", x.way(a, b, 46), NONE);
  }

  /** Rings of 67 and 31 functions to ALL but for one of each: what does not fit comes where that one should be above. */
  private static void farthest() {
    Counted x = new Counted();
    int a = allRing(x, 67, 4);
    int b = allRing(x, 31, 3);
    int due = 0;
    int[] at = {0, 0};
    boolean turned = false;
    while (true) {
      boolean oddA = at[0] == 66;
      boolean oddB = at[1] == 30;
      boolean fits = turned ? !oddA : !oddB;
      if (!fits) {
        break;
      }
      at[0] = (at[0] + 1) % 67;
      at[1] = (at[1] + 1) % 31;
      turned = !turned;
      due++;
    }
    CHECK.due("depth of rings with one other", x.depth(a, b), due + 1);
    CHECK.due("the last step", x.way(a, b, due), 1);
    CHECK.due("the step before", x.way(a, b, due - 1), 0);
  }

  /** A ring of p functions by their part 0, to ALL, but for the last one's. */
  private static int allRing(Counted x, int p, int last) {
    Check.feed(x, 8, 0);
    for (int i = 0; i < p; i++) {
      x.feed(5);
    }
    Check.feed(x, 9, 0, last);
    for (int i = 0; i < p - 1; i++) {
      x.feed(1);
    }
    return x.type();
  }

  private static void wrong() {
    Counted x = new Counted();
    Check.type(x, 5, 3, 4);
    int[] bad = {-1, 3, 200, Integer.MAX_VALUE, Integer.MIN_VALUE};
    for (int n : bad) {
      CHECK.due("below(0, " + n + ")", x.below(0, n), BAD);
      CHECK.due("below(" + n + ", 0)", x.below(n, 0), BAD);
      CHECK.due("depth(0, " + n + ")", x.depth(0, n), BAD);
      CHECK.due("depth(" + n + ", 0)", x.depth(n, 0), BAD);
      CHECK.due("way(0, " + n + ", 0)", x.way(0, n, 0), BAD);
      CHECK.due("way(" + n + ", 0, -1)", x.way(n, 0, -1), BAD);
    }
    CHECK.due("count(0)", x.count(0), 3);
  }

  public static void main(String[] args) {
    plain();
    functions();
    records();
    nearest();
    round();
    far();
    farthest();
    wrong();
    CHECK.end();
  }
}
