import java.util.ArrayList;
import java.util.HashMap;
import java.util.List;
import java.util.Map;

/**
 * The document's words once more, by other means than the program's: recursion, exceptions, lists, and relations that
 * are whittled down over all nodes. It answers what is due.
 */
final class Model {
  private static final int NONE = -1, BAD = -2, FULL = -3, ODD = -11, SHORT = -12, LOOSE = -13, LONG = -14, MISFIT = -15,
      ROOM = -16;

  private static final class Fault extends RuntimeException {
    private static final long serialVersionUID = 1L;
    final int what;
    final int where;

    Fault(int what, int where) {
      super(null, null, false, false);
      this.what = what;
      this.where = where;
    }
  }

  static final class Node {
    final int kind;
    final Integer[] parts = new Integer[8];

    Node(int kind) {
      this.kind = kind;
    }

    int labels() {
      int bits = 0;
      for (int i = 0; i < 8; i++) {
        bits |= parts[i] == null ? 0 : 1 << i;
      }
      return bits;
    }
  }

  private static final class Tree {
    int at;
    int word;
    int number;
    int label;
    int variable;
    final List<Integer> labels = new ArrayList<>();
    final List<Tree> kids = new ArrayList<>();
    Tree last;
  }

  private record Env(int head, Env tail) {
    int get(int k) {
      return k == 0 ? head : tail.get(k - 1);
    }
  }

  private static final class Value {
    int kind;
    int number;
    Tree lambda;
    Env env;
    final Map<Integer, Integer> parts = new HashMap<>();
  }

  final List<Integer> text = new ArrayList<>();
  List<Node> nodes = new ArrayList<>();
  private Tree term;
  private int place = NONE;
  private List<Value> values = new ArrayList<>();
  private int steps;
  private int limit;
  private int at;
  private int[][] depths;

  int clear() {
    int n = nodes.size();
    nodes = new ArrayList<>();
    depths = null;
    term = null;
    values = new ArrayList<>();
    steps = 0;
    return n;
  }

  int feed(int n) {
    if (text.size() == 200) {
      return FULL;
    }
    text.add(n);
    return text.size();
  }

  // ---- types

  private int word(int low, int high) {
    if (at == text.size()) {
      throw new Fault(SHORT, at);
    }
    int n = text.get(at);
    if (n < low || n > high) {
      throw new Fault(ODD, at);
    }
    at++;
    return n;
  }

  int type() {
    List<Node> before = new ArrayList<>(nodes);
    depths = null;
    at = 0;
    place = NONE;
    try {
      int[] scope = new int[0];
      int answer = readType(scope, new int[0]);
      if (at < text.size()) {
        throw new Fault(LONG, at);
      }
      if (nodes.size() > 200) {
        throw new Fault(FULL, NONE);
      }
      return answer;
    } catch (Fault f) {
      nodes = before;
      place = f.where;
      return f.what;
    } finally {
      text.clear();
    }
  }

  /** names and homes: of the 8s around, outermost first; homes.length nodes had come when each of them stood there. */
  private int readType(int[] names, int[] homes) {
    int start = at;
    int w = word(1, 9);
    if (w == 8) {
      int v = word(0, 9);
      return readType(more(names, v), more(homes, nodes.size()));
    }
    if (w == 9) {
      int v = word(0, 9);
      for (int i = names.length - 1; i >= 0; i--) {
        if (names[i] == v) {
          if (homes[i] == nodes.size()) {
            throw new Fault(LOOSE, start);
          }
          return homes[i];
        }
      }
      throw new Fault(LOOSE, start);
    }
    Node made = new Node(w - 1);
    int number = nodes.size();
    nodes.add(made);
    if (w == 5) {
      made.parts[0] = readType(names, homes);
      made.parts[1] = readType(names, homes);
    }
    if (w == 6 || w == 7) {
      int n = word(0, 8);
      int last = -1;
      for (int i = 0; i < n; i++) {
        last = word(last + 1, 7);
        made.parts[last] = readType(names, homes);
      }
    }
    return number;
  }

  private static int[] more(int[] row, int n) {
    int[] longer = java.util.Arrays.copyOf(row, row.length + 1);
    longer[row.length] = n;
    return longer;
  }

  int place() {
    return place;
  }

  private boolean has(int k) {
    return k >= 0 && k < nodes.size();
  }

  int node(int k, int what) {
    if (what < 0) {
      return BAD;
    }
    if (!has(k)) {
      return NONE;
    }
    Node n = nodes.get(k);
    if (what < 2) {
      return what == 0 ? n.kind : n.labels();
    }
    return what > 9 || n.parts[what - 2] == null ? NONE : n.parts[what - 2];
  }

  /** For each two nodes their depth, NONE where the first is below: round k finds those of depth k. */
  private void measure() {
    if (depths != null && depths.length == nodes.size()) {
      return;
    }
    int n = nodes.size();
    depths = new int[n][n];
    for (int[] row : depths) {
      java.util.Arrays.fill(row, NONE);
    }
    boolean grew = true;
    for (int round = 0; grew; round++) {
      grew = false;
      for (int a = 0; a < n; a++) {
        for (int b = 0; b < n; b++) {
          if (depths[a][b] == NONE && failsIn(round, a, b)) {
            depths[a][b] = round;
            grew = true;
          }
        }
      }
    }
  }

  private boolean failsIn(int round, int a, int b) {
    Node x = nodes.get(a);
    Node y = nodes.get(b);
    if (x.kind == 1 || y.kind == 0) {
      return false;
    }
    if (round == 0) {
      if (x.kind != y.kind) {
        return true;
      }
      for (int i = 0; i < 8; i++) {
        if (x.kind == 5 && y.parts[i] != null && x.parts[i] == null) {
          return true;
        }
        if (x.kind == 6 && x.parts[i] != null && y.parts[i] == null) {
          return true;
        }
      }
      return false;
    }
    return leastLabel(x, y, round - 1) != NONE;
  }

  private int leastLabel(Node x, Node y, int depth) {
    for (int i = 0; i < 8; i++) {
      if (x.parts[i] != null && y.parts[i] != null && partDepth(x, y, i) == depth) {
        return i;
      }
    }
    return NONE;
  }

  private int partDepth(Node x, Node y, int label) {
    int p = x.parts[label];
    int q = y.parts[label];
    return x.kind == 4 && label == 0 ? depths[q][p] : depths[p][q];
  }

  int below(int a, int b) {
    int d = depth(a, b);
    return d == BAD ? BAD : d == NONE ? 1 : 0;
  }

  int depth(int a, int b) {
    if (!has(a) || !has(b)) {
      return BAD;
    }
    measure();
    return depths[a][b];
  }

  int way(int a, int b, int k) {
    int d = depth(a, b);
    if (d == BAD || d == NONE || k < 0 || k >= d) {
      return d == BAD ? BAD : NONE;
    }
    int x = a;
    int y = b;
    for (int i = 0;; i++) {
      int label = leastLabel(nodes.get(x), nodes.get(y), d - 1 - i);
      if (i == k) {
        return label;
      }
      int p = nodes.get(x).parts[label];
      int q = nodes.get(y).parts[label];
      boolean turned = nodes.get(x).kind == 4 && label == 0;
      x = turned ? q : p;
      y = turned ? p : q;
    }
  }

  int unite(int a, int b) {
    return ask(true, a, b);
  }

  int meet(int a, int b) {
    return ask(false, a, b);
  }

  private int ask(boolean up, int a, int b) {
    if (!has(a) || !has(b)) {
      return BAD;
    }
    List<Node> before = new ArrayList<>(nodes);
    try {
      return join(up, a, b, new HashMap<>());
    } catch (Fault f) {
      nodes = before;
      return f.what;
    }
  }

  private int make(Node n) {
    if (nodes.size() == 200) {
      throw new Fault(FULL, NONE);
    }
    nodes.add(n);
    return nodes.size() - 1;
  }

  private int join(boolean up, int a, int b, Map<String, Integer> made) {
    int ka = nodes.get(a).kind;
    int kb = nodes.get(b).kind;
    if (a == b) {
      return a;
    }
    if (up) {
      if (ka == 1) return b;
      if (kb == 1) return a;
      if (ka == 0) return a;
      if (kb == 0) return b;
    } else {
      if (ka == 0) return b;
      if (kb == 0) return a;
      if (ka == 1) return a;
      if (kb == 1) return b;
    }
    if (ka == kb && ka < 4) {
      return a;
    }
    String key = up + " " + a + " " + b;
    if (made.containsKey(key)) {
      return made.get(key);
    }
    Node n = new Node(ka == kb ? ka : up ? 0 : 1);
    int number = make(n);
    made.put(key, number);
    if (ka != kb) {
      return number;
    }
    for (int i = 0; i < 8; i++) {
      Integer p = nodes.get(a).parts[i];
      Integer q = nodes.get(b).parts[i];
      if (p != null && q != null) {
        n.parts[i] = join(ka == 4 && i == 0 ? !up : up, p, q, made);
      } else if (ka == 5 && !up || ka == 6 && up) {
        n.parts[i] = p != null ? p : q;
      }
    }
    return number;
  }

  // ---- terms

  int term() {
    List<Node> before = new ArrayList<>(nodes);
    at = 0;
    place = NONE;
    try {
      Tree read = readTerm(0);
      if (at < text.size()) {
        throw new Fault(LONG, at);
      }
      int answer = typeOf(read, new ArrayList<>());
      term = read;
      return answer;
    } catch (Fault f) {
      nodes = before;
      depths = null;
      place = f.where;
      return f.what;
    } finally {
      text.clear();
    }
  }

  private Tree readTerm(int bound) {
    Tree t = new Tree();
    t.at = at;
    t.word = word(20, 33);
    int nodeCount = nodes.size();
    switch (t.word) {
      case 20 -> t.variable = word(0, bound - 1);
      case 21 -> {
        t.number = word(0, nodeCount - 1);
        t.kids.add(readTerm(bound + 1));
      }
      case 22, 24, 25, 28 -> {
        for (int i = 0; i < (t.word == 28 ? 3 : 2); i++) {
          t.kids.add(readTerm(bound));
        }
      }
      case 23 -> t.number = word(Integer.MIN_VALUE, Integer.MAX_VALUE);
      case 29, 32 -> {
        int n = word(0, 8);
        int last = -1;
        for (int i = 0; i < n; i++) {
          last = word(last + 1, 7);
          t.labels.add(last);
          t.kids.add(readTerm(t.word == 32 ? bound + 1 : bound));
        }
        t.last = t.word == 32 ? readTerm(bound) : null;
      }
      case 30 -> {
        t.label = word(0, 7);
        t.kids.add(readTerm(bound));
      }
      case 31 -> {
        t.number = word(0, nodeCount - 1);
        if (nodes.get(t.number).kind != 6) {
          throw new Fault(ODD, at - 1);
        }
        t.label = word(0, 7);
        if (nodes.get(t.number).parts[t.label] == null) {
          throw new Fault(ODD, at - 1);
        }
        t.kids.add(readTerm(bound));
      }
      case 33 -> {
        t.number = word(0, nodeCount - 1);
        word(21, 21);
        at--;
        t.kids.add(readTerm(bound + 1));
      }
      default -> { }
    }
    return t;
  }

  private int typeOf(Tree t, List<Integer> env) {
    List<Integer> k = new ArrayList<>();
    int sorted = t.last == null ? NONE : typeOf(t.last, env);
    for (int i = 0; i < t.kids.size(); i++) {
      List<Integer> inner = env;
      if (t.word == 21 || t.word == 33 || t.word == 32) {
        inner = new ArrayList<>(env);
        Integer part = t.word == 32 && nodes.get(sorted).kind == 6 ? nodes.get(sorted).parts[t.labels.get(i)] : null;
        inner.add(0, t.word != 32 ? (Integer) t.number : part != null ? part : (Integer) make(new Node(1)));
      }
      k.add(typeOf(t.kids.get(i), inner));
    }
    switch (t.word) {
      case 20:
        return env.get(t.variable);
      case 21: {
        Node n = new Node(4);
        n.parts[0] = t.number;
        n.parts[1] = k.get(0);
        return make(n);
      }
      case 22: {
        Node f = nodes.get(k.get(0));
        if (f.kind == 1) {
          return k.get(0);
        }
        need(f.kind == 4 && below(k.get(1), f.parts[0]) == 1, t);
        return f.parts[1];
      }
      case 24:
      case 25:
        need(is(k.get(0), 2) && is(k.get(1), 2), t);
        return make(new Node(t.word == 24 ? 2 : 3));
      case 23:
        return make(new Node(2));
      case 26:
      case 27:
        return make(new Node(3));
      case 28:
        need(is(k.get(0), 3), t);
        return join(true, k.get(1), k.get(2), new HashMap<>());
      case 29: {
        Node n = new Node(5);
        for (int i = 0; i < k.size(); i++) {
          n.parts[t.labels.get(i)] = k.get(i);
        }
        return make(n);
      }
      case 30: {
        Node r = nodes.get(k.get(0));
        if (r.kind == 1) {
          return k.get(0);
        }
        need(r.kind == 5 && r.parts[t.label] != null, t);
        return r.parts[t.label];
      }
      case 31:
        need(below(k.get(0), nodes.get(t.number).parts[t.label]) == 1, t);
        return t.number;
      case 32: {
        need(is(sorted, 6), t);
        for (int i = 0; i < 8; i++) {
          need(nodes.get(sorted).parts[i] == null || t.labels.contains(i), t);
        }
        if (k.isEmpty()) {
          return make(new Node(1));
        }
        int all = k.get(0);
        for (int i = 1; i < k.size(); i++) {
          all = join(true, all, k.get(i), new HashMap<>());
        }
        return all;
      }
      default:
        need(below(k.get(0), t.number) == 1, t);
        return t.number;
    }
  }

  private boolean is(int node, int kind) {
    return nodes.get(node).kind == kind || nodes.get(node).kind == 1;
  }

  private static void need(boolean fits, Tree t) {
    if (!fits) {
      throw new Fault(MISFIT, t.at);
    }
  }

  // ---- the machine

  int run(int most) {
    if (term == null || most < 0 || most > 20000) {
      return BAD;
    }
    values = new ArrayList<>();
    steps = 0;
    limit = most;
    try {
      return eval(term, null, 0, null);
    } catch (Fault f) {
      return f.what;
    }
  }

  private int come(int kind, int number) {
    if (values.size() == 2000) {
      throw new Fault(ROOM, NONE);
    }
    Value v = new Value();
    v.kind = kind;
    v.number = number;
    values.add(v);
    return values.size() - 1;
  }

  /** around: how many terms are begun and not done; self: the value of the 33 whose E this is. */
  private int eval(Tree start, Env given, int around, Integer self) {
    Tree t = start;
    Env env = given;
    Integer mine = self;
    while (true) {
      if (steps == limit) {
        throw new Fault(NONE, NONE);
      }
      if (around + 1 > 300) {
        throw new Fault(ROOM, NONE);
      }
      steps++;
      int in = around + 1;
      switch (t.word) {
        case 20:
          return env.get(t.variable);
        case 21: {
          int made = mine != null ? mine : come(4, 0);
          values.get(made).lambda = t;
          values.get(made).env = env;
          return made;
        }
        case 22: {
          int f = eval(t.kids.get(0), env, in, null);
          int x = eval(t.kids.get(1), env, in, null);
          t = values.get(f).lambda.kids.get(0);
          env = new Env(x, values.get(f).env);
          break;
        }
        case 23:
          return come(2, t.number);
        case 24:
        case 25: {
          int x = values.get(eval(t.kids.get(0), env, in, null)).number;
          int y = values.get(eval(t.kids.get(1), env, in, null)).number;
          return t.word == 24 ? come(2, x + y) : come(3, x < y ? 1 : 0);
        }
        case 26:
        case 27:
          return come(3, t.word == 26 ? 1 : 0);
        case 28:
          t = t.kids.get(values.get(eval(t.kids.get(0), env, in, null)).number == 1 ? 1 : 2);
          break;
        case 29: {
          Map<Integer, Integer> parts = new HashMap<>();
          int bits = 0;
          for (int i = 0; i < t.kids.size(); i++) {
            parts.put(t.labels.get(i), eval(t.kids.get(i), env, in, null));
            bits |= 1 << t.labels.get(i);
          }
          int made = come(5, bits);
          values.get(made).parts.putAll(parts);
          return made;
        }
        case 30:
          return values.get(eval(t.kids.get(0), env, in, null)).parts.get(t.label);
        case 31: {
          int part = eval(t.kids.get(0), env, in, null);
          int made = come(6, t.label);
          values.get(made).parts.put(t.label, part);
          return made;
        }
        case 32: {
          Value v = values.get(eval(t.last, env, in, null));
          env = new Env(v.parts.get(v.number), env);
          t = t.kids.get(t.labels.indexOf(v.number));
          break;
        }
        default: {
          mine = come(4, 0);
          env = new Env(mine, env);
          t = t.kids.get(0);
          continue;
        }
      }
      mine = null;
    }
  }

  int value(int k, int what) {
    if (what < 0) {
      return BAD;
    }
    if (k < 0 || k >= values.size()) {
      return NONE;
    }
    Value v = values.get(k);
    if (what < 2) {
      return what == 0 ? v.kind : v.number;
    }
    return v.parts.getOrDefault(what - 2, NONE);
  }

  int count(int what) {
    return switch (what) {
      case 0 -> nodes.size();
      case 1 -> text.size();
      case 2 -> values.size();
      case 3 -> steps;
      case 4 -> term == null ? 0 : 1;
      default -> BAD;
    };
  }
}
