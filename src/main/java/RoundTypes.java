/**
 * Types that go round in themselves, and a small language by them.
 *
 * <p>No method calls itself: texts, types and terms nest up to 200 deep, so every walk keeps rows of its own for what
 * is still open. All rows are made once, with the object.
 */
public final class RoundTypes {
  public static final int NONE = -1, BAD = -2, FULL = -3, ODD = -11, SHORT = -12, LOOSE = -13, LONG = -14, MISFIT = -15, ROOM = -16;

  private static final int TEXT = 200, NODES = 200, LABELS = 8, NAMES = 10;
  private static final int STEPS = 20000, VALUES = 2000, OPEN = 300;
  private static final int LEAST = -2147483648, GREATEST = 2147483647;

  /** The kinds of types, and of values. */
  private static final int ALL = 0, NOTHING = 1, INT = 2, BOOL = 3, FUNCTION = 4, RECORD = 5, CHOICE = 6;

  /** The words of a type's text that are told apart by name; the word of a kind is that kind and one. */
  private static final int FIRST_TYPE = 1, BIND = 8, STAND = 9;

  /** The words of terms. */
  private static final int VARIABLE = 20, LAMBDA = 21, APPLY = 22, NUMBER = 23, SUM = 24, LESS = 25, TRUE = 26,
      FALSE = 27, WHETHER = 28, GATHER = 29, PICK = 30, TAG = 31, SORT = 32, ITSELF = 33;

  /** The two ways in which two types become one. */
  private static final int UNITED = 0, MET = 1;

  private final Text text = new Text();
  private final Graph graph = new Graph();
  private final Order order = new Order(graph);
  private final Bounds bounds = new Bounds(graph);
  /** The TERM, and room to read the next one in, as the one before stays if that has a fault. */
  private Program program = new Program();
  private Program spare = new Program();
  private final TypeReader typeReader = new TypeReader(text, graph);
  private final TermReader termReader = new TermReader(text, graph, spare);
  private final Checker checker = new Checker(graph, order, bounds, spare);
  private final Machine machine = new Machine(program);
  private boolean hasTerm;
  private int faultPlace = NONE;

  public RoundTypes() {
  }

  public int clear() {
    int before = graph.size();
    graph.cutTo(0);
    hasTerm = false;
    machine.forget();
    return before;
  }

  public int feed(int n) {
    return text.append(n);
  }

  public int type() {
    int first = graph.size();
    text.rewind();
    boolean good = typeReader.read();
    boolean fits = graph.size() <= NODES;
    if (!good || !fits) {
      graph.cutTo(first);
    }
    faultPlace = text.faultPlace();
    int fault = text.fault();
    text.empty();
    if (!good) {
      return fault;
    }
    return fits ? first : FULL;
  }

  public int term() {
    int first = graph.size();
    text.rewind();
    boolean good = termReader.read(spare);
    faultPlace = text.faultPlace();
    int answer = text.fault();
    text.empty();
    if (good) {
      answer = checker.check(spare);
      faultPlace = answer == MISFIT ? checker.misfitPlace() : NONE;
    }
    if (!good || answer < 0) {
      graph.cutTo(first);
      return answer;
    }
    Program before = program;
    program = spare;
    spare = before;
    hasTerm = true;
    return answer;
  }

  public int place() {
    return faultPlace;
  }

  public int node(int k, int what) {
    if (what < 0) {
      return BAD;
    }
    if (!graph.has(k)) {
      return NONE;
    }
    if (what == 0) {
      return graph.kindOf(k);
    }
    return what == 1 ? graph.labelsOf(k) : graph.partOf(k, what - 2);
  }

  public int below(int a, int b) {
    if (!graph.has(a) || !graph.has(b)) {
      return BAD;
    }
    return order.search(a, b) == NONE ? 1 : 0;
  }

  public int depth(int a, int b) {
    if (!graph.has(a) || !graph.has(b)) {
      return BAD;
    }
    return order.distance(a, b);
  }

  public int way(int a, int b, int k) {
    if (!graph.has(a) || !graph.has(b)) {
      return BAD;
    }
    return order.labelOnWay(a, b, k);
  }

  public int unite(int a, int b) {
    if (!graph.has(a) || !graph.has(b)) {
      return BAD;
    }
    return bounds.join(UNITED, a, b);
  }

  public int meet(int a, int b) {
    if (!graph.has(a) || !graph.has(b)) {
      return BAD;
    }
    return bounds.join(MET, a, b);
  }

  public int run(int steps) {
    if (!hasTerm || steps < 0 || steps > STEPS) {
      return BAD;
    }
    return machine.perform(program, steps);
  }

  public int value(int k, int what) {
    if (what < 0) {
      return BAD;
    }
    Values values = machine.values();
    if (!values.has(k)) {
      return NONE;
    }
    if (what == 0) {
      return values.kindOf(k);
    }
    return what == 1 ? values.numberOf(k) : values.partOf(k, what - 2);
  }

  public int count(int what) {
    switch (what) {
      case 0:
        return graph.size();
      case 1:
        return text.size();
      case 2:
        return machine.values().size();
      case 3:
        return machine.steps();
      case 4:
        return hasTerm ? 1 : 0;
      default:
        return BAD;
    }
  }

  /** THE TEXT, with the place up to which it is read and the first fault that was seen in it. */
  private static final class Text {
    private final int[] numbers = new int[TEXT];
    private int size;
    private int at;
    private int taken;
    private int fault;
    private int faultPlace = NONE;

    int size() {
      return size;
    }

    int at() {
      return at;
    }

    /** The number that was taken last. */
    int taken() {
      return taken;
    }

    int fault() {
      return fault;
    }

    int faultPlace() {
      return faultPlace;
    }

    int append(int n) {
      if (size >= TEXT) {
        return FULL;
      }
      numbers[size] = n;
      size++;
      return size;
    }

    void empty() {
      size = 0;
    }

    void rewind() {
      at = 0;
      fault = NONE;
      faultPlace = NONE;
    }

    boolean fail(int what, int where) {
      fault = what;
      faultPlace = where;
      return false;
    }

    boolean take(int least, int most) {
      if (at >= size) {
        return fail(SHORT, at);
      }
      int n = numbers[at];
      if (n < least || n > most) {
        return fail(ODD, at);
      }
      taken = n;
      at++;
      return true;
    }

    boolean takeEnd() {
      return at >= size || fail(LONG, at);
    }

    void copyTo(int[] row) {
      for (int i = 0; i < size && i < row.length; i++) {
        row[i] = numbers[i];
      }
    }
  }

  /**
   * The NODES. There are rows beyond the document's limit, because the nodes of a text come as it is read, and whether
   * there is a fault in it must be known before whether they fit.
   */
  private static final class Graph {
    private static final int ROWS = NODES + TEXT;
    private final int[] kinds = new int[ROWS];
    private final int[] labels = new int[ROWS];
    private final int[] parts = new int[ROWS * LABELS];
    private int size;

    int size() {
      return size;
    }

    boolean has(int n) {
      return n >= 0 && n < size;
    }

    int kindOf(int n) {
      return n >= 0 && n < size ? kinds[n] : NONE;
    }

    int labelsOf(int n) {
      return n >= 0 && n < size ? labels[n] : 0;
    }

    int partOf(int n, int label) {
      boolean good = n >= 0 && n < size && label >= 0 && label < LABELS;
      return good && (labels[n] >> label & 1) == 1 ? parts[n * LABELS + label] : NONE;
    }

    /** A node that stays, or FULL. */
    int make(int kind) {
      return size < NODES ? draft(kind) : FULL;
    }

    /** A node that may be one too many for now. */
    int draft(int kind) {
      if (size >= ROWS) {
        return FULL;
      }
      kinds[size] = kind;
      labels[size] = 0;
      size++;
      return size - 1;
    }

    void setPart(int n, int label, int part) {
      if (n >= 0 && n < size && label >= 0 && label < LABELS) {
        labels[n] |= 1 << label;
        parts[n * LABELS + label] = part;
      }
    }

    void cutTo(int first) {
      if (first >= 0 && first < size) {
        size = first;
      }
    }
  }

  /**
   * BELOW, DEPTH and the way. Of each two nodes there is one rule that can hold, so a is BELOW b unless two that can't
   * be by their kinds and labels are among the parts, and parts' parts, that should be. A search by rising distance,
   * and in each distance by rising labels, meets first the two that are nearest and have the least way.
   */
  private static final class Order {
    private static final int PAIRS = NODES * NODES;
    private final Graph graph;
    /** Two nodes that should be BELOW one another, the label they came by, and which entry they are parts of. */
    private final long[] queue = new long[PAIRS];
    private final long[] seen = new long[(PAIRS + 63) / 64];
    private int size;

    Order(Graph graph) {
      this.graph = graph;
    }

    int distance(int a, int b) {
      int entry = search(a, b);
      return entry == NONE ? NONE : stepsTo(entry);
    }

    int labelOnWay(int a, int b, int k) {
      int entry = search(a, b);
      int steps = entry == NONE ? 0 : stepsTo(entry);
      if (k < 0 || k >= steps) {
        return NONE;
      }
      for (int i = steps - 1; i > k; i--) {
        entry = cameFrom(entry);
      }
      return entry >= 0 && entry < size ? (int) (queue[entry] >> 16 & 7) : NONE;
    }

    private int stepsTo(int entry) {
      int steps = 0;
      for (int e = entry; e > 0 && steps < size; e = cameFrom(e)) {
        steps++;
      }
      return steps;
    }

    private int cameFrom(int entry) {
      return entry >= 0 && entry < size ? (int) (queue[entry] >> 19) : 0;
    }

    /** The entry of the nearest two that do not fit; NONE: there are none such, a is BELOW b. */
    int search(int a, int b) {
      forget();
      enter(a, b, 0, 0);
      for (int e = 0; e < size && e < PAIRS; e++) {
        int low = (int) (queue[e] >> 8 & 255);
        int high = (int) (queue[e] & 255);
        if (!fitAtSight(low, high)) {
          return e;
        }
        enterParts(low, high, e);
      }
      return NONE;
    }

    /** Walks the entries alone: most searches see few of the pairs. */
    private void forget() {
      for (int e = 0; e < size && e < PAIRS; e++) {
        int pair = (int) (queue[e] >> 8 & 255) * NODES + (int) (queue[e] & 255);
        if (pair < PAIRS) {
          seen[pair >> 6] = 0;
        }
      }
      size = 0;
    }

    private boolean fitAtSight(int a, int b) {
      int kind = graph.kindOf(a);
      if (kind == NOTHING || graph.kindOf(b) == ALL) {
        return true;
      }
      if (kind != graph.kindOf(b)) {
        return false;
      }
      if (kind == RECORD) {
        return (graph.labelsOf(b) & ~graph.labelsOf(a)) == 0;
      }
      return kind != CHOICE || (graph.labelsOf(a) & ~graph.labelsOf(b)) == 0;
    }

    /** Of two that fit at sight, the labels of which both have parts are just those that a rule speaks of. */
    private void enterParts(int a, int b, int from) {
      for (int label = 0; label < LABELS; label++) {
        int x = graph.partOf(a, label);
        int y = graph.partOf(b, label);
        boolean turned = graph.kindOf(a) == FUNCTION && label == 0;
        if (x != NONE && y != NONE) {
          enter(turned ? y : x, turned ? x : y, label, from);
        }
      }
    }

    private void enter(int a, int b, int label, int from) {
      if (a < 0 || a >= NODES || b < 0 || b >= NODES || size >= PAIRS) {
        return;
      }
      int pair = a * NODES + b;
      long bit = 1L << (pair & 63);
      if ((seen[pair >> 6] & bit) == 0) {
        seen[pair >> 6] |= bit;
        queue[size] = (long) from << 19 | (long) label << 16 | (long) a << 8 | b;
        size++;
      }
    }
  }

  /** Two nodes UNITED or MET. */
  private static final class Bounds {
    private final Graph graph;
    /** Of each node that this asking made: for which two, and how they become one. */
    private final int[] keys = new int[NODES];
    private final int[] openNodes = new int[NODES];
    private final int[] nextLabels = new int[NODES];
    private int open;
    private int first;

    Bounds(Graph graph) {
      this.graph = graph;
    }

    /** Goes on with the innermost node that lacks parts, so that what is made for a part is filled before the next. */
    int join(int how, int a, int b) {
      first = graph.size();
      open = 0;
      int answer = joinTop(how, a, b);
      int latest = answer;
      for (int turn = 0; open > 0 && latest != FULL && turn < NODES * (LABELS + 1); turn++) {
        int top = open - 1;
        int made = openNodes[top];
        int label = nextLabels[top];
        if (label >= LABELS) {
          open = top;
          continue;
        }
        nextLabels[top]++;
        int x = graph.partOf(keyOf(made) >> 8 & 255, label);
        int y = graph.partOf(keyOf(made) & 255, label);
        latest = x != NONE && y != NONE ? joinTop(howOfPart(made, label), x, y) : lonePart(made, x, y);
        if (latest >= 0) {
          graph.setPart(made, label, latest);
        }
      }
      if (latest == FULL) {
        graph.cutTo(first);
        return FULL;
      }
      return answer;
    }

    private int keyOf(int made) {
      return made >= 0 && made < NODES ? keys[made] : 0;
    }

    private int howOfPart(int made, int label) {
      int how = keyOf(made) >> 16;
      boolean turned = graph.kindOf(made) == FUNCTION && label == 0;
      return turned ? UNITED + MET - how : how;
    }

    /** The part that one of two has, where that stays; NONE: it does not, or there is none. */
    private int lonePart(int made, int x, int y) {
      boolean united = keyOf(made) >> 16 == UNITED;
      boolean choice = graph.kindOf(made) == CHOICE;
      if (united != choice) {
        return NONE;
      }
      return x != NONE ? x : y;
    }

    private int joinTop(int how, int a, int b) {
      int yields = how == UNITED ? NOTHING : ALL;
      int wins = how == UNITED ? ALL : NOTHING;
      int kindA = graph.kindOf(a);
      int kindB = graph.kindOf(b);
      if (a == b) {
        return a;
      }
      if (kindA == yields || kindB == yields) {
        return kindA == yields ? b : a;
      }
      if (kindA == wins || kindB == wins) {
        return kindA == wins ? a : b;
      }
      if (kindA == kindB && (kindA == INT || kindA == BOOL)) {
        return a;
      }
      int key = how << 16 | a << 8 | b;
      int known = madeFor(key);
      return known != NONE ? known : makeFor(key, kindA == kindB ? kindA : wins);
    }

    private int madeFor(int key) {
      for (int n = first; n < graph.size() && n < NODES; n++) {
        if (keys[n] == key) {
          return n;
        }
      }
      return NONE;
    }

    private int makeFor(int key, int kind) {
      int made = graph.size() < NODES ? graph.draft(kind) : FULL;
      if (made < 0 || made >= NODES) {
        return FULL;
      }
      keys[made] = key;
      if (kind >= FUNCTION && open < NODES) {
        openNodes[open] = made;
        nextLabels[open] = 0;
        open++;
      }
      return made;
    }
  }

  /** Reads THE TEXT as a TYPE. What is open is a node that lacks parts, or an 8 whose type has not ended. */
  private static final class TypeReader {
    private final Text text;
    private final Graph graph;
    /** The open node; of an 8 the node that its type will be, if that is not a 9. */
    private final int[] nodes = new int[TEXT];
    /** The v of an 8, and NONE of a node. */
    private final int[] names = new int[TEXT];
    private final int[] lacking = new int[TEXT];
    private final int[] labels = new int[TEXT];
    private int open;

    TypeReader(Text text, Graph graph) {
      this.text = text;
      this.graph = graph;
    }

    /** The first node that this adds is the type's own: a text without a fault can't be a 9 alone. */
    boolean read() {
      open = 0;
      for (int turn = 0; turn <= TEXT; turn++) {
        if (!readLabel() || !readWord()) {
          return false;
        }
        if (open == 0) {
          return text.takeEnd();
        }
      }
      return false;
    }

    private boolean readLabel() {
      int top = open - 1;
      if (top < 0 || names[top] != NONE) {
        return true;
      }
      if (graph.kindOf(nodes[top]) == FUNCTION) {
        labels[top]++;
        return true;
      }
      if (!text.take(labels[top] + 1, LABELS - 1)) {
        return false;
      }
      labels[top] = text.taken();
      return true;
    }

    private boolean readWord() {
      int at = text.at();
      if (!text.take(FIRST_TYPE, STAND)) {
        return false;
      }
      int word = text.taken();
      if (word == BIND) {
        return readBind();
      }
      return word == STAND ? readStand(at) : readNode(word - FIRST_TYPE);
    }

    private boolean readBind() {
      if (!text.take(0, NAMES - 1)) {
        return false;
      }
      push(graph.size(), text.taken(), 1);
      return true;
    }

    private boolean readStand(int at) {
      if (!text.take(0, NAMES - 1)) {
        return false;
      }
      int bind = open - 1;
      while (bind >= 0 && names[bind] != text.taken()) {
        bind--;
      }
      // That no node has come since its 8 is that nothing but 8s stand between them.
      if (bind < 0 || nodes[bind] >= graph.size()) {
        return text.fail(LOOSE, at);
      }
      settle(nodes[bind]);
      return true;
    }

    private boolean readNode(int kind) {
      int made = graph.draft(kind);
      int parts = kind == FUNCTION ? 2 : 0;
      if (kind == RECORD || kind == CHOICE) {
        if (!text.take(0, LABELS)) {
          return false;
        }
        parts = text.taken();
      }
      if (parts > 0) {
        push(made, NONE, parts);
      } else {
        settle(made);
      }
      return true;
    }

    private void push(int node, int name, int parts) {
      if (open < TEXT) {
        nodes[open] = node;
        names[open] = name;
        lacking[open] = parts;
        labels[open] = NONE;
        open++;
      }
    }

    /** A type has ended; so may those around it. */
    private void settle(int node) {
      int ended = node;
      for (int top = open - 1; top >= 0; top--) {
        if (names[top] == NONE) {
          graph.setPart(nodes[top], labels[top], ended);
          ended = nodes[top];
        }
        lacking[top]--;
        if (lacking[top] > 0) {
          return;
        }
        open = top;
      }
    }
  }

  /** A TERM as it was read. A term in it is known by the place of its word. */
  private static final class Program {
    /** 32 has a term for each label, and one more. */
    private static final int KIDS = LABELS + 1;
    private final int[] words = new int[TEXT];
    private final int[] kids = new int[TEXT * KIDS];
    private final int[] kidCounts = new int[TEXT];
    /** Of a term in which a variable is bound: the next such term around it. */
    private final int[] outer = new int[TEXT];
    /** Of a variable: the term in which it is bound. */
    private final int[] homes = new int[TEXT];

    void start(Text text) {
      text.copyTo(words);
    }

    void add(int term) {
      if (term >= 0 && term < TEXT) {
        kidCounts[term] = 0;
      }
    }

    void addKid(int term, int kid) {
      if (term >= 0 && term < TEXT && kidCounts[term] < KIDS) {
        kids[term * KIDS + kidCounts[term]] = kid;
        kidCounts[term]++;
      }
    }

    void setOuter(int term, int around) {
      if (term >= 0 && term < TEXT) {
        outer[term] = around;
      }
    }

    void setHome(int variable, int term) {
      if (variable >= 0 && variable < TEXT) {
        homes[variable] = term;
      }
    }

    /** The word or number at a place. */
    int word(int place) {
      return place >= 0 && place < TEXT ? words[place] : NONE;
    }

    int kidCount(int term) {
      return term >= 0 && term < TEXT ? kidCounts[term] : 0;
    }

    int kid(int term, int i) {
      boolean good = term >= 0 && term < TEXT && i >= 0 && i < KIDS;
      return good && i < kidCounts[term] ? kids[term * KIDS + i] : NONE;
    }

    /** The terms in a term by the order in which they are done, NONE behind them: of 32 the last stands first. */
    int kidInTurn(int term, int i) {
      int count = kidCount(term);
      if (word(term) != SORT || i >= count) {
        return kid(term, i);
      }
      return i == 0 ? kid(term, count - 1) : kid(term, i - 1);
    }

    /** The label of a term in a 29 or 32, which stands right before it. */
    int labelOf(int kid) {
      return kid > 0 && kid <= TEXT ? words[kid - 1] : NONE;
    }

    int outer(int term) {
      return term >= 0 && term < TEXT ? outer[term] : NONE;
    }

    int home(int variable) {
      return variable >= 0 && variable < TEXT ? homes[variable] : NONE;
    }
  }

  /** Reads THE TEXT as a TERM, so far as that can be told without types. */
  private static final class TermReader {
    private final Text text;
    private final Graph graph;
    private Program program;
    private final int[] terms = new int[TEXT];
    private final int[] lacking = new int[TEXT];
    private final int[] labels = new int[TEXT];
    /** The innermost term around in which a variable is bound. */
    private final int[] scopes = new int[TEXT];
    private int open;

    TermReader(Text text, Graph graph, Program program) {
      this.text = text;
      this.graph = graph;
      this.program = program;
    }

    boolean read(Program into) {
      program = into;
      program.start(text);
      open = 0;
      for (int turn = 0; turn <= TEXT; turn++) {
        if (!readLabel() || !readTerm()) {
          return false;
        }
        if (open == 0) {
          return text.takeEnd();
        }
      }
      return false;
    }

    private int wordAround() {
      return open > 0 ? program.word(terms[open - 1]) : NONE;
    }

    /** Whether the term to come is one of those of 32 that have a label. */
    private boolean isCase() {
      return open > 0 && wordAround() == SORT && lacking[open - 1] > 1;
    }

    private boolean readLabel() {
      int top = open - 1;
      if (top < 0 || wordAround() != GATHER && !isCase()) {
        return true;
      }
      if (!text.take(labels[top] + 1, LABELS - 1)) {
        return false;
      }
      labels[top] = text.taken();
      return true;
    }

    private boolean readTerm() {
      int at = text.at();
      boolean lambdaOnly = wordAround() == ITSELF;
      if (!text.take(lambdaOnly ? LAMBDA : VARIABLE, lambdaOnly ? LAMBDA : ITSELF)) {
        return false;
      }
      int scope = enter(at);
      int kids = readHead(at, text.taken(), scope);
      if (kids == NONE) {
        return false;
      }
      if (kids > 0) {
        push(at, kids, scope);
      } else {
        settle();
      }
      return true;
    }

    /** Puts the term into the one around it; answers its scope. */
    private int enter(int at) {
      program.add(at);
      int top = open - 1;
      if (top < 0) {
        return NONE;
      }
      int scope = scopes[top];
      program.addKid(terms[top], at);
      int around = wordAround();
      if (around == LAMBDA || around == ITSELF || isCase()) {
        program.setOuter(at, scope);
        return at;
      }
      return scope;
    }

    /** Reads the numbers behind the word; answers how many terms come then, NONE at a fault. */
    private int readHead(int at, int word, int scope) {
      switch (word) {
        case VARIABLE:
          return readVariable(at, scope) ? 0 : NONE;
        case LAMBDA:
        case ITSELF:
          return text.take(0, graph.size() - 1) ? 1 : NONE;
        case NUMBER:
          return text.take(LEAST, GREATEST) ? 0 : NONE;
        case GATHER:
          return text.take(0, LABELS) ? text.taken() : NONE;
        case SORT:
          return text.take(0, LABELS) ? text.taken() + 1 : NONE;
        case PICK:
          return text.take(0, LABELS - 1) ? 1 : NONE;
        case TAG:
          return readTag(at) ? 1 : NONE;
        case WHETHER:
          return 3;
        case APPLY:
        case SUM:
        case LESS:
          return 2;
        default:
          return 0;
      }
    }

    private boolean readVariable(int at, int scope) {
      if (!text.take(0, GREATEST)) {
        return false;
      }
      int home = scope;
      for (int k = text.taken(); k > 0 && home != NONE; k--) {
        home = program.outer(home);
      }
      if (home == NONE) {
        return text.fail(ODD, at + 1);
      }
      program.setHome(at, home);
      return true;
    }

    private boolean readTag(int at) {
      if (!text.take(0, graph.size() - 1)) {
        return false;
      }
      int choice = text.taken();
      if (graph.kindOf(choice) != CHOICE) {
        return text.fail(ODD, at + 1);
      }
      if (!text.take(0, LABELS - 1)) {
        return false;
      }
      return graph.partOf(choice, text.taken()) != NONE || text.fail(ODD, at + 2);
    }

    private void push(int at, int kids, int scope) {
      if (open < TEXT) {
        terms[open] = at;
        lacking[open] = kids;
        labels[open] = NONE;
        scopes[open] = scope;
        open++;
      }
    }

    /** A term has ended; so may those around it. */
    private void settle() {
      for (int top = open - 1; top >= 0; top--) {
        lacking[top]--;
        if (lacking[top] > 0) {
          return;
        }
        open = top;
      }
    }
  }

  /** Finds the TYPE of a TERM. */
  private static final class Checker {
    private final Graph graph;
    private final Order order;
    private final Bounds bounds;
    private Program program;
    /** By a term's place. */
    private final int[] types = new int[TEXT];
    /** By the place of the term in which the variable is bound. */
    private final int[] variables = new int[TEXT];
    private final int[] openTerms = new int[TEXT];
    private final int[] nextKids = new int[TEXT];
    private int open;
    private int misfitPlace;

    Checker(Graph graph, Order order, Bounds bounds, Program program) {
      this.graph = graph;
      this.order = order;
      this.bounds = bounds;
      this.program = program;
    }

    int misfitPlace() {
      return misfitPlace;
    }

    /** The node of the type, MISFIT or FULL; the caller takes the nodes back at a fault. */
    int check(Program whole) {
      program = whole;
      misfitPlace = NONE;
      open = 0;
      push(0);
      int latest = NONE;
      for (int turn = 0; open > 0 && turn <= 2 * TEXT; turn++) {
        int top = open - 1;
        int term = openTerms[top];
        int kid = program.kidInTurn(term, nextKids[top]);
        if (kid == NONE) {
          open = top;
          latest = joinBranches(term, typeOf(term));
          setType(term, latest);
        } else {
          latest = bindIn(term, kid, nextKids[top]);
          nextKids[top]++;
          push(kid);
        }
        if (latest == MISFIT || latest == FULL) {
          return latest;
        }
      }
      return latest;
    }

    private void setType(int term, int type) {
      if (type == MISFIT) {
        misfitPlace = term;
      }
      if (term >= 0 && term < TEXT) {
        types[term] = type;
      }
    }

    private void push(int term) {
      if (open < TEXT) {
        openTerms[open] = term;
        nextKids[open] = 0;
        open++;
      }
    }

    /** Gives the variable that is bound in a term its type; answers that type, FULL, or NONE if none is bound. */
    private int bindIn(int term, int kid, int turn) {
      int type = NONE;
      int word = program.word(term);
      if (word == LAMBDA || word == ITSELF) {
        type = program.word(term + 1);
      } else if (word == SORT && turn > 0) {
        type = typeOfCase(term, program.labelOf(kid));
      }
      if (kid >= 0 && kid < TEXT) {
        variables[kid] = type;
      }
      return type;
    }

    private int typeOfCase(int term, int label) {
      int sorted = typeIn(term, program.kidCount(term) - 1);
      int part = graph.kindOf(sorted) == CHOICE ? graph.partOf(sorted, label) : NONE;
      return part != NONE ? part : graph.make(NOTHING);
    }

    private int typeIn(int term, int i) {
      int kid = program.kid(term, i);
      return kid >= 0 && kid < TEXT ? types[kid] : NONE;
    }

    /** What is left to do for the type of 28 and 32: their first branch's becomes all branches' UNITED. */
    private int joinBranches(int term, int type) {
      int word = program.word(term);
      int next = word == WHETHER ? 2 : 1;
      int end = word == WHETHER ? 3 : word == SORT ? program.kidCount(term) - 1 : 0;
      int joined = type;
      for (int i = next; i < end && joined >= 0; i++) {
        joined = bounds.join(UNITED, joined, typeIn(term, i));
      }
      return joined;
    }

    /** The type, but of 28 and 32 only that of the first branch. */
    private int typeOf(int term) {
      switch (program.word(term)) {
        case VARIABLE:
          return typeOfVariable(program.home(term));
        case LAMBDA:
          return typeOfLambda(program.word(term + 1), typeIn(term, 0));
        case APPLY:
          return typeOfApply(typeIn(term, 0), typeIn(term, 1));
        case NUMBER:
          return graph.make(INT);
        case SUM:
          return bothNumbers(term) ? graph.make(INT) : MISFIT;
        case LESS:
          return bothNumbers(term) ? graph.make(BOOL) : MISFIT;
        case TRUE:
        case FALSE:
          return graph.make(BOOL);
        case WHETHER:
          return isOrNothing(typeIn(term, 0), BOOL) ? typeIn(term, 1) : MISFIT;
        case GATHER:
          return typeOfGather(term);
        case PICK:
          return typeOfPick(typeIn(term, 0), program.word(term + 1));
        case TAG:
          return typeOfTag(program.word(term + 1), program.word(term + 2), typeIn(term, 0));
        case SORT:
          return typeOfSort(term);
        case ITSELF:
          return typeOfItself(program.word(term + 1), typeIn(term, 0));
        default:
          return MISFIT;
      }
    }

    /** BELOW a type of that kind, which needs no node to be compared with. */
    private boolean isOrNothing(int type, int kind) {
      return graph.kindOf(type) == kind || graph.kindOf(type) == NOTHING;
    }

    private boolean bothNumbers(int term) {
      return isOrNothing(typeIn(term, 0), INT) && isOrNothing(typeIn(term, 1), INT);
    }

    private int typeOfVariable(int home) {
      return home >= 0 && home < TEXT ? variables[home] : MISFIT;
    }

    private int typeOfLambda(int from, int to) {
      int made = graph.make(FUNCTION);
      graph.setPart(made, 0, from);
      graph.setPart(made, 1, to);
      return made;
    }

    private int typeOfApply(int function, int argument) {
      if (graph.kindOf(function) == NOTHING) {
        return function;
      }
      boolean fits = graph.kindOf(function) == FUNCTION && order.search(argument, graph.partOf(function, 0)) == NONE;
      return fits ? graph.partOf(function, 1) : MISFIT;
    }

    private int typeOfGather(int term) {
      int made = graph.make(RECORD);
      for (int i = 0; i < program.kidCount(term); i++) {
        graph.setPart(made, program.labelOf(program.kid(term, i)), typeIn(term, i));
      }
      return made;
    }

    private int typeOfPick(int record, int label) {
      if (graph.kindOf(record) == NOTHING) {
        return record;
      }
      int part = graph.kindOf(record) == RECORD ? graph.partOf(record, label) : NONE;
      return part != NONE ? part : MISFIT;
    }

    private int typeOfTag(int choice, int label, int part) {
      return order.search(part, graph.partOf(choice, label)) == NONE ? choice : MISFIT;
    }

    private int typeOfSort(int term) {
      int cases = program.kidCount(term) - 1;
      int labels = 0;
      for (int i = 0; i < cases; i++) {
        labels |= 1 << program.labelOf(program.kid(term, i));
      }
      int sorted = typeIn(term, cases);
      if (!isOrNothing(sorted, CHOICE) || (graph.labelsOf(sorted) & ~labels) != 0) {
        return MISFIT;
      }
      return cases == 0 ? graph.make(NOTHING) : typeIn(term, 0);
    }

    private int typeOfItself(int type, int found) {
      return order.search(found, type) == NONE ? type : MISFIT;
    }
  }

  /** The VALUES of a run. */
  private static final class Values {
    private final int[] kinds = new int[VALUES];
    private final int[] numbers = new int[VALUES];
    private final int[] parts = new int[VALUES * LABELS];
    /** Of a function: its 21, and what was bound around it. */
    private final int[] lambdas = new int[VALUES];
    private final int[] cells = new int[VALUES];
    private int size;

    int size() {
      return size;
    }

    void empty() {
      size = 0;
    }

    boolean has(int k) {
      return k >= 0 && k < size;
    }

    /** The value's number, NONE if it is one too many. */
    int add(int kind, int number) {
      if (size >= VALUES) {
        return NONE;
      }
      kinds[size] = kind;
      numbers[size] = number;
      lambdas[size] = NONE;
      cells[size] = NONE;
      size++;
      return size - 1;
    }

    void setPart(int k, int label, int part) {
      if (has(k) && label >= 0 && label < LABELS) {
        parts[k * LABELS + label] = part;
      }
    }

    void setFunction(int k, int lambda, int cell) {
      if (has(k)) {
        lambdas[k] = lambda;
        cells[k] = cell;
      }
    }

    int kindOf(int k) {
      return has(k) ? kinds[k] : NONE;
    }

    int numberOf(int k) {
      return has(k) ? numbers[k] : 0;
    }

    int lambdaOf(int k) {
      return has(k) ? lambdas[k] : NONE;
    }

    int cellOf(int k) {
      return has(k) ? cells[k] : NONE;
    }

    int partOf(int k, int label) {
      if (!has(k) || label < 0 || label >= LABELS) {
        return NONE;
      }
      boolean inRecord = kinds[k] == RECORD && (numbers[k] >> label & 1) == 1;
      boolean inChoice = kinds[k] == CHOICE && numbers[k] == label;
      return inRecord || inChoice ? parts[k * LABELS + label] : NONE;
    }
  }

  /** What is bound while the machine runs: chains of cells that functions share. */
  private static final class Cells {
    /** A cell is bound for a 22, 32 or 33 that was begun, one for each, so there are no more of them than steps. */
    private static final int MOST = STEPS;
    private final int[] bound = new int[MOST];
    private final int[] outer = new int[MOST];
    private int size;

    void empty() {
      size = 0;
    }

    int add(int value, int around) {
      if (size >= MOST) {
        return NONE;
      }
      bound[size] = value;
      outer[size] = around;
      size++;
      return size - 1;
    }

    int valueAt(int cell, int k) {
      int found = cell;
      for (int i = 0; i < k && found >= 0 && found < size; i++) {
        found = outer[found];
      }
      return found >= 0 && found < size ? bound[found] : NONE;
    }
  }

  /** Does a TERM. Either a term is due to be begun, or a value was got for the innermost open term. */
  private static final class Machine {
    private static final int GOT = LABELS;
    /** A step begins a term, and its value is handed on once at most. */
    private static final int TURNS = 2 * STEPS + 2;
    private final Values values = new Values();
    private final Cells cells = new Cells();
    private Program program;
    private final int[] openTerms = new int[OPEN];
    private final int[] openCells = new int[OPEN];
    private final int[] gotCounts = new int[OPEN];
    private final int[] gotten = new int[OPEN * GOT];
    private int open;
    private int steps;
    private int due;
    private int dueCell;
    /** The value that the due 21 is to be, being the E of a 33. */
    private int dueSelf;
    private int got;

    Machine(Program program) {
      this.program = program;
    }

    Values values() {
      return values;
    }

    int steps() {
      return steps;
    }

    void forget() {
      values.empty();
      cells.empty();
      open = 0;
      steps = 0;
    }

    int perform(Program term, int limit) {
      forget();
      program = term;
      dueSelf = NONE;
      want(0, NONE);
      for (int turn = 0; turn < TURNS; turn++) {
        if (due == NONE && open == 0) {
          return got;
        }
        if (due == NONE) {
          resume();
        } else if (steps >= limit) {
          return NONE;
        } else if (open >= OPEN) {
          return ROOM;
        } else {
          steps++;
          begin(due, dueCell);
        }
        if (due == NONE && got == NONE) {
          return ROOM;
        }
      }
      return NONE;
    }

    private void want(int term, int cell) {
      due = term;
      dueCell = cell;
    }

    /** NONE stands for a value that there is no room for. */
    private void give(int value) {
      due = NONE;
      got = value;
    }

    private void begin(int term, int cell) {
      switch (program.word(term)) {
        case VARIABLE:
          give(cells.valueAt(cell, program.word(term + 1)));
          break;
        case LAMBDA:
          beginLambda(term, cell);
          break;
        case NUMBER:
          give(values.add(INT, program.word(term + 1)));
          break;
        case TRUE:
          give(values.add(BOOL, 1));
          break;
        case FALSE:
          give(values.add(BOOL, 0));
          break;
        case ITSELF:
          beginItself(term, cell);
          break;
        default:
          beginOpen(term, cell);
          break;
      }
    }

    private void beginLambda(int term, int cell) {
      int made = dueSelf == NONE ? values.add(FUNCTION, 0) : dueSelf;
      dueSelf = NONE;
      values.setFunction(made, term, cell);
      give(made);
    }

    private void beginItself(int term, int cell) {
      int made = values.add(FUNCTION, 0);
      if (made == NONE) {
        give(NONE);
        return;
      }
      dueSelf = made;
      want(program.kid(term, 0), cells.add(made, cell));
    }

    private void beginOpen(int term, int cell) {
      if (program.kidCount(term) == 0) {
        give(values.add(RECORD, 0));
        return;
      }
      push(term, cell);
      want(program.kidInTurn(term, 0), cell);
    }

    private void push(int term, int cell) {
      if (open < OPEN) {
        openTerms[open] = term;
        openCells[open] = cell;
        gotCounts[open] = 0;
        open++;
      }
    }

    private void resume() {
      int top = open - 1;
      if (top < 0 || top >= OPEN) {
        return;
      }
      int term = openTerms[top];
      if (gotCounts[top] < GOT) {
        gotten[top * GOT + gotCounts[top]] = got;
        gotCounts[top]++;
      }
      if (gotCounts[top] < neededBy(term)) {
        want(program.kidInTurn(term, gotCounts[top]), openCells[top]);
        return;
      }
      open = top;
      finish(term, gottenBy(top, 0), openCells[top]);
    }

    private int gottenBy(int row, int i) {
      return row >= 0 && row < OPEN && i >= 0 && i < GOT ? gotten[row * GOT + i] : NONE;
    }

    /** How many terms must be done before a term is applied, chosen by or taken apart. */
    private int neededBy(int term) {
      int word = program.word(term);
      return word == WHETHER || word == SORT ? 1 : program.kidCount(term);
    }

    private void finish(int term, int first, int cell) {
      switch (program.word(term)) {
        case APPLY:
          want(program.kid(values.lambdaOf(first), 0), cells.add(got, values.cellOf(first)));
          break;
        case SUM:
          give(values.add(INT, values.numberOf(first) + values.numberOf(got)));
          break;
        case LESS:
          give(values.add(BOOL, values.numberOf(first) < values.numberOf(got) ? 1 : 0));
          break;
        case WHETHER:
          want(program.kid(term, values.numberOf(first) == 1 ? 1 : 2), cell);
          break;
        case GATHER:
          give(gather(term, open));
          break;
        case PICK:
          give(values.partOf(first, program.word(term + 1)));
          break;
        case TAG:
          give(tag(program.word(term + 2), first));
          break;
        default:
          want(caseFor(term, values.numberOf(first)), cells.add(partOfChoice(first), cell));
          break;
      }
    }

    private int gather(int term, int row) {
      int labels = 0;
      for (int i = 0; i < program.kidCount(term); i++) {
        labels |= 1 << program.labelOf(program.kid(term, i));
      }
      int made = values.add(RECORD, labels);
      for (int i = 0; i < program.kidCount(term); i++) {
        values.setPart(made, program.labelOf(program.kid(term, i)), gottenBy(row, i));
      }
      return made;
    }

    private int tag(int label, int part) {
      int made = values.add(CHOICE, label);
      values.setPart(made, label, part);
      return made;
    }

    private int partOfChoice(int choice) {
      return values.partOf(choice, values.numberOf(choice));
    }

    private int caseFor(int term, int label) {
      for (int i = 0; i < program.kidCount(term) - 1; i++) {
        if (program.labelOf(program.kid(term, i)) == label) {
          return program.kid(term, i);
        }
      }
      return NONE;
    }
  }
}
