/** A RoundTypes whose calls are counted: of an object after its 512th call the document promises nothing. */
final class Counted {
  static final int MOST = 512;
  private static int usedTooLong;
  private final RoundTypes inside = new RoundTypes();
  private int calls;

  /** How many objects were used for more calls than the document speaks of. */
  static int usedTooLong() {
    return usedTooLong;
  }

  private RoundTypes call() {
    calls++;
    usedTooLong += calls == MOST + 1 ? 1 : 0;
    return inside;
  }

  /** The object itself, to look at its room. */
  RoundTypes inside() {
    return inside;
  }

  int calls() {
    return calls;
  }

  int clear() {
    return call().clear();
  }

  int feed(int n) {
    return call().feed(n);
  }

  int type() {
    return call().type();
  }

  int term() {
    return call().term();
  }

  int place() {
    return call().place();
  }

  int node(int k, int what) {
    return call().node(k, what);
  }

  int below(int a, int b) {
    return call().below(a, b);
  }

  int depth(int a, int b) {
    return call().depth(a, b);
  }

  int way(int a, int b, int k) {
    return call().way(a, b, k);
  }

  int unite(int a, int b) {
    return call().unite(a, b);
  }

  int meet(int a, int b) {
    return call().meet(a, b);
  }

  int run(int steps) {
    return call().run(steps);
  }

  int value(int k, int what) {
    return call().value(k, what);
  }

  int count(int what) {
    return call().count(what);
  }
}
