import java.util.ArrayList;
import java.util.List;
import java.util.Map;
import java.util.TreeMap;

/** Many runs of calls, the same each time, whose answers are compared with those of the Model. */
final class ModelTest {
  private static final int[] EDGES = {-1, 0, 1, 2, 7, 8, 9, 10, 19, 20, 33, 34, 199, 200, Integer.MAX_VALUE, Integer.MIN_VALUE};

  private final Check check = new Check();
  private final Map<String, Integer> seen = new TreeMap<>();
  private long seed;
  private RoundTypes real;
  private Model model;
  private int calls;
  private String run = "";
  private final List<Integer> out = new ArrayList<>();

  private int pick(int n) {
    seed = seed * 6364136223846793005L + 1442695040888963407L;
    return (int) ((seed >>> 33) % n);
  }

  private int due(String call, int got, int want) {
    check.due(run + call, got, want);
    calls++;
    return want;
  }

  private void tally(String what, int answer) {
    String name = answer >= 0 ? "an answer" : Integer.toString(answer);
    seen.merge(what + ": " + name, 1, Integer::sum);
  }

  private void feedOut() {
    for (int n : out) {
      due("feed(" + n + ")", real.feed(n), model.feed(n));
    }
  }

  private void askPlace() {
    due("place() " + out, real.place(), model.place());
  }

  // ---- texts

  private void makeType(int fuel, int names) {
    int kind = fuel <= 0 ? 3 + pick(2) : pick(12);
    if (kind >= 9 && names > 0 && pick(3) > 0) {
      add(9, pick(names));
      return;
    }
    switch (kind) {
      case 0, 5, 10 -> {
        add(5);
        makeType(fuel - 1, names);
        makeType(fuel - 1, names);
      }
      case 1, 2, 3, 4 -> add(kind);
      case 6, 7, 11 -> makeParts(kind == 11 ? 7 : kind, fuel, names);
      default -> {
        int v = pick(4) == 0 ? pick(Math.max(1, names)) : Math.min(names, 9);
        add(8, v);
        makeType(fuel, Math.max(names, v + 1));
      }
    }
  }

  private void makeParts(int word, int fuel, int names) {
    int labels = pick(pick(8) == 0 ? 256 : 8);
    add(word, Integer.bitCount(labels));
    for (int l = 0; l < 8; l++) {
      if ((labels >> l & 1) == 1) {
        add(l);
        makeType(fuel - 2, names);
      }
    }
  }

  private void add(int... numbers) {
    for (int n : numbers) {
      if (out.size() < 200) {
        out.add(n);
      }
    }
  }

  private void makeTerm(int goal, List<Integer> env, int fuel) {
    Model.Node node = model.nodes.get(goal);
    if (out.size() > 180 || fuel < -8) {
      add(23, 0);
      return;
    }
    if (pick(3) == 0 && useVariable(goal, env, fuel)) {
      return;
    }
    if (fuel > 0 && pick(4) == 0) {
      wrap(goal, env, fuel - 1);
      return;
    }
    if (fuel < -3 && useVariable(goal, env, fuel)) {
      return;
    }
    switch (node.kind) {
      case 0 -> makeTerm(fuel < 0 ? goalOf(2, goal) : pick(model.nodes.size()), env, fuel - 1);
      case 1 -> makeLoop(env, fuel);
      case 2 -> makeNumber(goal, env, fuel);
      case 3 -> makeWhether(env, fuel);
      case 4 -> makeFunction(goal, env, fuel);
      case 5 -> makeRecord(goal, env, fuel);
      default -> makeTag(goal, env, fuel);
    }
  }

  private int goalOf(int kind, int other) {
    int from = pick(model.nodes.size());
    for (int i = 0; i < model.nodes.size(); i++) {
      int n = (from + i) % model.nodes.size();
      if (model.nodes.get(n).kind == kind) {
        return n;
      }
    }
    return other;
  }

  private boolean useVariable(int goal, List<Integer> env, int fuel) {
    int from = pick(Math.max(1, env.size()));
    for (int i = 0; i < env.size(); i++) {
      int k = (from + i) % env.size();
      int type = env.get(k);
      if (model.below(type, goal) == 1) {
        add(20, k);
        return true;
      }
      Model.Node node = model.nodes.get(type);
      if (fuel > -2 && node.kind == 4 && model.below(node.parts[1], goal) == 1) {
        add(22, 20, k);
        makeTerm(node.parts[0], env, fuel - 1);
        return true;
      }
      if (node.kind == 5) {
        for (int l = 0; l < 8; l++) {
          if (node.parts[l] != null && model.below(node.parts[l], goal) == 1) {
            add(30, l, 20, k);
            return true;
          }
        }
      }
    }
    return false;
  }

  private static List<Integer> inside(List<Integer> env, int type) {
    List<Integer> more = new ArrayList<>(env);
    more.add(0, type);
    return more;
  }

  private void wrap(int goal, List<Integer> env, int fuel) {
    int other = pick(model.nodes.size());
    switch (pick(4)) {
      case 0 -> {
        add(28);
        makeTerm(goalOf(3, goal), env, fuel);
        makeTerm(goal, env, fuel);
        makeTerm(goal, env, fuel);
      }
      case 1 -> {
        add(22, 21, other);
        makeTerm(goal, inside(env, other), fuel);
        makeTerm(other, env, fuel);
      }
      case 2 -> {
        int l = pick(7);
        add(30, l, 29, 2, l);
        makeTerm(goal, env, fuel);
        add(l + 1);
        makeTerm(other, env, fuel);
      }
      default -> makeSort(goal, goalOf(6, other), env, fuel);
    }
  }

  private void makeSort(int goal, int choice, List<Integer> env, int fuel) {
    Model.Node node = model.nodes.get(choice);
    int labels = node.kind == 6 ? node.labels() : pick(4);
    labels |= pick(3) == 0 ? 1 << pick(8) : 0;
    labels &= pick(20) == 0 ? 127 : 255;
    add(32, Integer.bitCount(labels));
    for (int l = 0; l < 8; l++) {
      if ((labels >> l & 1) == 1) {
        add(l);
        int part = node.kind == 6 && node.parts[l] != null ? node.parts[l] : goalOf(1, goal);
        int here = pick(5) == 0 ? pick(model.nodes.size()) : goal;
        makeTerm(here, inside(env, part), fuel);
      }
    }
    makeTerm(choice, env, fuel);
  }

  private void makeLoop(List<Integer> env, int fuel) {
    for (int n = 0; n < model.nodes.size(); n++) {
      Model.Node node = model.nodes.get(n);
      if (node.kind == 4 && model.nodes.get(node.parts[1]).kind == 1 && fuel > -2) {
        add(22, 33, n, 21, node.parts[0], 22, 20, 1, 20, 0);
        makeTerm(node.parts[0], env, fuel - 2);
        return;
      }
    }
    add(23, 1);
  }

  private void makeNumber(int goal, List<Integer> env, int fuel) {
    if (fuel > -2 && pick(3) == 0) {
      add(24);
      makeTerm(goal, env, fuel - 1);
      makeTerm(goal, env, fuel - 1);
    } else {
      add(23, pick(10) == 0 ? EDGES[pick(EDGES.length)] : pick(20));
    }
  }

  private void makeWhether(List<Integer> env, int fuel) {
    int number = goalOf(2, NONE_HERE);
    if (fuel > -2 && number != NONE_HERE && pick(2) == 0) {
      add(25);
      makeTerm(number, env, fuel - 1);
      makeTerm(number, env, fuel - 1);
    } else {
      add(26 + pick(2));
    }
  }

  private static final int NONE_HERE = -1;

  private void makeFunction(int goal, List<Integer> env, int fuel) {
    List<Integer> around = env;
    if (pick(2) == 0) {
      add(33, goal);
      around = inside(env, goal);
    }
    int from = model.nodes.get(goal).parts[0];
    add(21, from);
    makeTerm(model.nodes.get(goal).parts[1], inside(around, from), fuel - 1);
  }

  private void makeRecord(int goal, List<Integer> env, int fuel) {
    Model.Node node = model.nodes.get(goal);
    int labels = node.labels() | (pick(4) == 0 ? 1 << pick(8) : 0);
    add(29, Integer.bitCount(labels));
    for (int l = 0; l < 8; l++) {
      if ((labels >> l & 1) == 1) {
        add(l);
        makeTerm(node.parts[l] != null ? node.parts[l] : pick(model.nodes.size()), env, fuel - 2);
      }
    }
  }

  private void makeTag(int goal, List<Integer> env, int fuel) {
    Model.Node node = model.nodes.get(goal);
    int from = fuel < 0 ? 0 : pick(8);
    for (int i = 0; i < 8; i++) {
      int l = (from + i) % 8;
      if (node.parts[l] != null) {
        add(31, goal, l);
        makeTerm(node.parts[l], env, fuel - 1);
        return;
      }
    }
    add(23, 2);
  }

  private void spoil() {
    if (out.isEmpty()) {
      return;
    }
    int i = pick(out.size());
    int n = pick(2) == 0 ? EDGES[pick(EDGES.length)] : pick(36);
    switch (pick(4)) {
      case 0 -> out.set(i, n);
      case 1 -> out.remove(i);
      case 2 -> out.add(i, n);
      default -> out.subList(i, out.size()).clear();
    }
  }

  // ---- calls

  private void askType() {
    out.clear();
    makeType(1 + pick(5), 0);
    if (pick(5) == 0) {
      spoil();
    }
    feedOut();
    int before = model.count(0);
    tally("type", due("type() " + out, real.type(), model.type()));
    askPlace();
    askNodes(before);
  }

  private void askNodes(int from) {
    due("count(0)", real.count(0), model.count(0));
    for (int k = from; k <= model.count(0); k++) {
      for (int what = 0; what < 11; what++) {
        due("node(" + k + ", " + what + ")", real.node(k, what), model.node(k, what));
      }
    }
  }

  /** Two types of nearly the same text, so that what does not fit lies deep. */
  private void askTwins() {
    out.clear();
    makeType(4 + pick(4), 0);
    List<Integer> text = new ArrayList<>(out);
    int before = model.count(0);
    feedOut();
    int a = due("type() " + out, real.type(), model.type());
    out.clear();
    out.addAll(text);
    for (int i = pick(3); i >= 0; i--) {
      int at = pick(out.size());
      int n = out.get(at);
      if (n >= 1 && n <= 4) {
        out.set(at, 1 + pick(4));
      }
    }
    feedOut();
    int b = due("type() " + out, real.type(), model.type());
    if (a >= 0 && b >= 0) {
      askOrder(a, b);
      askOrder(b, a);
      tally("unite", due("unite(" + a + ", " + b + ")", real.unite(a, b), model.unite(a, b)));
      tally("meet", due("meet(" + a + ", " + b + ")", real.meet(a, b), model.meet(a, b)));
    }
    askNodes(before);
  }

  /** Nodes until few are left, for what FULL says. */
  private void fill() {
    int most = 200 - pick(30);
    while (model.count(0) < most) {
      out.clear();
      makeType(5, 0);
      feedOut();
      due("type() " + out, real.type(), model.type());
      if (model.count(0) < most && model.count(0) > 0 && pick(4) == 0) {
        askBounds();
      }
    }
  }

  /** A function that calls itself up to some number; its sum waits, its choice does not. */
  private void askLoop() {
    out.clear();
    add(5, 3, 3);
    feedOut();
    int f = due("type()", real.type(), model.type());
    if (f < 0) {
      return;
    }
    int times = pick(400);
    boolean waits = pick(2) == 0;
    boolean round = pick(3) == 0;
    out.clear();
    add(22, 33, f, 21, f + 1, 28, 25, 20, 0, 23, times);
    if (waits) {
      add(24, 20, 0);
    }
    add(22, 20, 1);
    if (round) {
      add(20, 0);
    } else {
      add(24, 20, 0, 23, 1 + pick(3));
    }
    add(20, 0, 23, 0);
    feedOut();
    tally("term", due("term() " + out, real.term(), model.term()));
    askRun();
  }

  /** A function that applies itself for ever, in a body that binds many variables on the way there. */
  private void askRound() {
    out.clear();
    add(6, 3, 0, 5, 3, 3, 1, 5, 5, 3, 3, 3, 2, 7, 1, 2, 3);
    feedOut();
    int first = due("type() " + out, real.type(), model.type());
    if (first < 0) {
      return;
    }
    Model.Node all = model.nodes.get(first);
    int f = all.parts[0];
    int number = model.nodes.get(f).parts[0];
    int loop = all.parts[1];
    int choice = all.parts[2];
    List<Integer> env = List.of(f, loop, number, f, choice);
    out.clear();
    add(22, 21, choice, 22, 21, f, 22, 21, number, 22, 33, loop, 21, f);
    makeRound(first, env, 1 + pick(40), pick(6), env.size() - 2);
    makeSmall(first, f, env.subList(2, 5));
    makeSmall(first, number, env.subList(3, 5));
    makeSmall(first, f, env.subList(4, 5));
    add(31, choice, 2, 23, 1);
    feedOut();
    tally("round", due("term() " + out, real.term(), model.term()));
    askRun();
    tally("long run", due("run(20000)", real.run(20000), model.run(20000)));
    due("count(2)", real.count(2), model.count(2));
    due("count(3)", real.count(3), model.count(3));
  }

  /** self: how many are bound around the variable of the function that is applied again. */
  private void makeRound(int first, List<Integer> env, int fuel, int dense, int self) {
    int f = model.nodes.get(first).parts[0];
    int loop = model.nodes.get(first).parts[1];
    int choice = model.nodes.get(first).parts[2];
    int number = model.nodes.get(f).parts[0];
    if (fuel <= 0) {
      add(22, 20, env.size() - 1 - self);
      makeSmall(first, f, env);
      return;
    }
    switch (pick(dense == 0 ? 5 : 6 * dense)) {
      case 0 -> {
        add(22, 33, loop, 21, f);
        makeRound(first, inside(inside(env, loop), f), fuel - 3, dense, self);
        makeSmall(first, f, env);
      }
      case 1 -> {
        int type = pick(2) == 0 ? f : number;
        add(22, 21, type);
        makeRound(first, inside(env, type), fuel - 2, dense, self);
        makeSmall(first, type, env);
      }
      case 2 -> {
        add(28, 26 + pick(2));
        if (out.get(out.size() - 1) == 26) {
          makeRound(first, env, fuel - 1, dense, self);
          makeSmall(first, number, env);
        } else {
          makeSmall(first, number, env);
          makeRound(first, env, fuel - 1, dense, self);
        }
      }
      default -> {
        add(32, 1, 2);
        makeRound(first, inside(env, number), fuel - 1, dense, self);
        add(20, env.lastIndexOf(choice));
      }
    }
  }

  /** A short term of the type of a function or a number: mostly a variable. */
  private void makeSmall(int first, int type, List<Integer> env) {
    boolean function = type == (int) model.nodes.get(first).parts[0];
    int number = model.nodes.get(model.nodes.get(first).parts[0]).parts[0];
    int k = env.indexOf(type);
    if (k >= 0 && pick(3) > 0) {
      add(20, k);
    } else if (function && pick(3) > 0) {
      add(33, type, 21, number, 20, 0);
    } else if (function) {
      add(21, number, 20, 0);
    } else {
      add(23, pick(9));
    }
  }

  private void askOrder() {
    askOrder(pick(model.count(0)), pick(model.count(0)));
  }

  private void askOrder(int a, int b) {
    String two = a + ", " + b;
    due("below(" + two + ")", real.below(a, b), model.below(a, b));
    int d = due("depth(" + two + ")", real.depth(a, b), model.depth(a, b));
    seen.merge("depth: " + d, 1, Integer::sum);
    for (int k = -1; k <= d + 1; k++) {
      due("way(" + two + ", " + k + ")", real.way(a, b, k), model.way(a, b, k));
    }
  }

  private void askBounds() {
    int a = pick(model.count(0));
    int b = pick(model.count(0));
    int before = model.count(0);
    if (pick(2) == 0) {
      tally("unite", due("unite(" + a + ", " + b + ")", real.unite(a, b), model.unite(a, b)));
    } else {
      tally("meet", due("meet(" + a + ", " + b + ")", real.meet(a, b), model.meet(a, b)));
    }
    askNodes(before);
  }

  private void askTerm() {
    out.clear();
    makeTerm(pick(model.count(0)), new ArrayList<>(), 1 + pick(5));
    if (pick(5) == 0) {
      spoil();
    }
    feedOut();
    int before = model.count(0);
    tally("term", due("term() " + out, real.term(), model.term()));
    askPlace();
    askNodes(before);
    due("count(4)", real.count(4), model.count(4));
  }

  private void askRun() {
    int steps = pick(2) == 0 ? 20000 : pick(60);
    tally("run", due("run(" + steps + ")", real.run(steps), model.run(steps)));
    due("count(2)", real.count(2), model.count(2));
    due("count(3)", real.count(3), model.count(3));
    int size = model.count(2);
    for (int k = Math.max(0, size - 60); k <= size; k++) {
      for (int what = 0; what < 11; what++) {
        due("value(" + k + ", " + what + ")", real.value(k, what), model.value(k, what));
      }
    }
  }

  private void askEdges() {
    int a = EDGES[pick(EDGES.length)];
    int b = EDGES[pick(EDGES.length)];
    due("node", real.node(a, b), model.node(a, b));
    due("value", real.value(a, b), model.value(a, b));
    due("below", real.below(a, b), model.below(a, b));
    due("depth", real.depth(a, b), model.depth(a, b));
    due("way", real.way(a, b, a), model.way(a, b, a));
    due("run", real.run(a), model.run(a));
    due("count", real.count(b), model.count(b));
    due("unite", real.unite(a, b), model.unite(a, b));
    due("meet", real.meet(a, b), model.meet(a, b));
  }

  private void askOne(int number) {
    run = "run " + number + ": ";
    seed = number;
    real = new RoundTypes();
    model = new Model();
    int most = pick(8) == 0 ? 40 : 14;
    if (number % 10 == 0) {
      fill();
    }
    for (int i = 0; i < most && check.good(); i++) {
      int what = pick(24);
      if (what > 22) {
        askRound();
      } else if (what > 20) {
        askTwins();
      } else if (what == 20) {
        askLoop();
      } else if (what < 5 || model.count(0) == 0) {
        askType();
      } else if (what < 8) {
        askOrder();
      } else if (what < 11) {
        askBounds();
      } else if (what < 18) {
        askTerm();
        askRun();
      } else if (what == 18) {
        askEdges();
      } else if (pick(10) == 0) {
        due("clear()", real.clear(), model.clear());
        askRun();
      }
    }
  }

  public static void main(String[] args) {
    int runs = args.length > 0 ? Integer.parseInt(args[0]) : 4000;
    ModelTest test = new ModelTest();
    for (int i = 1; i <= runs; i++) {
      test.askOne(i);
    }
    if (args.length > 1) {
      System.out.println(test.seen);
    }
    test.check.end();
  }
}
