import java.util.Arrays;

/** The sentences of promises 13 and 14, and of THE MACHINE, that name an edge, each with a test of its own. */
final class MachineEdgesTest {
  private static final int NONE = RoundTypes.NONE, BAD = RoundTypes.BAD, ROOM = RoundTypes.ROOM, ODD = RoundTypes.ODD;
  private static final int LEAST = Integer.MIN_VALUE, GREATEST = Integer.MAX_VALUE, MOST = 20000;
  /** The nodes of a base(). */
  private static final int INT = 0, BOOL = 1, INT_INT = 2, CHOICE = 5, ALL = 8, RECORD = 9, LOOP = 11, ENDS = 14;
  private static final Check CHECK = new Check();

  /**
   * 0 INT, 1 BOOL, 2 INT to INT, 5 a choice of 1 INT and 4 BOOL, 8 ALL, 9 a record of 0 INT, 11 INT to NOTHING, 14 a
   * choice of 0 INT and 7 INT.
   */
  private static Counted base() {
    Counted x = new Counted();
    int[][] texts = {{3}, {4}, {5, 3, 3}, {7, 2, 1, 3, 4, 4}, {1}, {6, 1, 0, 3}, {5, 3, 2}, {7, 2, 0, 3, 7, 3}};
    for (int[] text : texts) {
      Check.type(x, text);
    }
    return x;
  }

  private static Counted term(int... text) {
    Counted x = base();
    CHECK.due("term() of " + Arrays.toString(text), Check.term(x, text) >= 0 ? 1 : 0, 1);
    return x;
  }

  /** What a run answers and leaves, of a term just read. */
  private static void run(Counted x, int steps, int answer, int values, int done) {
    String name = "run(" + steps + ")";
    CHECK.due(name, x.run(steps), answer);
    CHECK.due("count(2) of " + name, x.count(2), values);
    CHECK.due("count(3) of " + name, x.count(3), done);
  }

  private static void value(Counted x, int k, int kind, int number) {
    CHECK.due("kind of value " + k, x.value(k, 0), kind);
    CHECK.due("number of value " + k, x.value(k, 1), number);
  }

  // ---- numbers

  private static void sums() {
    int[][] rows = {{GREATEST, 1, LEAST}, {1, GREATEST, LEAST}, {LEAST, -1, GREATEST}, {LEAST, LEAST, 0}, {GREATEST, GREATEST, -2},
        {GREATEST, LEAST, -1}, {GREATEST, 0, GREATEST}, {LEAST, 0, LEAST}, {0, 0, 0}, {-1, 1, 0}, {1 << 30, 1 << 30, LEAST}};
    for (int[] row : rows) {
      Counted x = term(24, 23, row[0], 23, row[1]);
      run(x, 3, 2, 3, 3);
      value(x, 0, 2, row[0]);
      value(x, 1, 2, row[1]);
      value(x, 2, 2, row[2]);
    }
    Counted x = term(24, 24, 23, GREATEST, 23, GREATEST, 24, 23, GREATEST, 23, 3);
    run(x, MOST, 6, 7, 7);
    value(x, 6, 2, LEAST);
  }

  private static void lesses() {
    int[][] rows = {{LEAST, GREATEST, 1}, {GREATEST, LEAST, 0}, {LEAST, LEAST, 0}, {GREATEST, GREATEST, 0}, {LEAST, LEAST + 1, 1},
        {GREATEST - 1, GREATEST, 1}, {GREATEST, GREATEST - 1, 0}, {-1, 0, 1}, {0, -1, 0}, {0, 0, 0}, {LEAST, 1, 1}, {1, LEAST, 0},
        {-2, GREATEST, 1}};
    for (int[] row : rows) {
      Counted x = term(25, 23, row[0], 23, row[1]);
      run(x, 3, 2, 3, 3);
      value(x, 2, 3, row[2]);
    }
  }

  // ---- steps

  private static void noSteps() {
    int[][] texts = {{26}, {23, 5}, {29, 0}, {21, INT, 20, 0}, {24, 23, 1, 23, 2}, {33, INT_INT, 21, INT, 20, 0}};
    for (int[] text : texts) {
      Counted x = term(text);
      x.run(MOST);
      run(x, 0, NONE, 0, 0);
      CHECK.due("value(0, 0)", x.value(0, 0), NONE);
      CHECK.due("the term stays", x.count(4), 1);
    }
  }

  /** Each number of steps up to those that are needed: not done by then, but at the last. */
  private static void stepByStep() {
    Counted x = term(22, 21, INT, 28, 25, 20, 0, 23, 5, 24, 20, 0, 20, 0, 23, 0, 23, 4);
    // 22, 21, 23, then 28, 25, 20, 23, then 24, 20, 20; a value comes of 21, 23, 23, 25, 24.
    int[] values = {0, 0, 1, 2, 2, 2, 2, 4, 4, 4};
    for (int steps = 0; steps < values.length; steps++) {
      run(x, steps, NONE, values[steps], steps);
    }
    run(x, values.length, 4, 5, values.length);
    run(x, values.length + 1, 4, 5, values.length);
    run(x, MOST, 4, 5, values.length);
    value(x, 4, 2, 8);
  }

  /**
   * A term of just so many steps, near 20000: 444 rounds of 45 steps, 12 around them, two more for each of some 28s, and
   * three more if the argument is a variable's.
   */
  private static Counted ofSteps(int whethers, boolean applied) {
    int[] pads = Check.times(18, 28, 20, 2);
    int[] body = Check.join(Check.text(33, INT_INT, 21, INT, 28, 25, 20, 0, 23, 444), pads, Check.text(22, 20, 1, 24, 20, 0, 23, 1),
        Check.times(18, 20, 0), Check.text(20, 0));
    int[] argument = applied ? Check.text(22, 21, INT, 20, 0, 23, 0) : Check.text(23, 0);
    return term(Check.join(Check.times(whethers, 28, 26), Check.text(22, 21, BOOL, 22), body, argument, Check.text(26),
        Check.times(whethers, 23, 0)));
  }

  private static void mostSteps() {
    Counted x = ofSteps(4, false);
    CHECK.due("20000 steps in 20000", x.run(MOST) >= 0 ? 1 : 0, 1);
    CHECK.due("count(3)", x.count(3), MOST);
    int answer = x.run(MOST);
    value(x, answer, 2, 444);
    CHECK.due("20000 steps in 19999", x.run(MOST - 1), NONE);
    CHECK.due("count(3)", x.count(3), MOST - 1);
    x = ofSteps(3, true);
    CHECK.due("20001 steps in 20000", x.run(MOST), NONE);
    CHECK.due("count(3)", x.count(3), MOST);
    x = ofSteps(2, true);
    CHECK.due("19999 steps in 19999", x.run(MOST - 1), x.run(MOST));
    CHECK.due("count(3)", x.count(3), MOST - 1);
    CHECK.due("they are done", x.run(MOST - 1) >= 0 ? 1 : 0, 1);
    CHECK.due("19999 steps in 19998", x.run(MOST - 2), NONE);
  }

  private static void endless() {
    Counted x = term(22, 33, LOOP, 21, INT, 22, 20, 1, 20, 0, 23, 1);
    run(x, MOST, NONE, 2, MOST);
    run(x, MOST - 1, NONE, 2, MOST - 1);
    run(x, 1, NONE, 0, 1);
    // What a run uses up is there again for the next.
    for (int i = 0; i < 5; i++) {
      run(x, MOST, NONE, 2, MOST);
    }
  }

  private static void badNumber() {
    int[] bad = {-1, -2, MOST + 1, MOST + 2, 65536, GREATEST, LEAST, LEAST + 5};
    Counted x = term(24, 23, 1, 23, 2);
    for (int steps : bad) {
      CHECK.due("before any: run(" + steps + ")", x.run(steps), BAD);
    }
    CHECK.due("no run was", x.count(3), 0);
    run(x, MOST, 2, 3, 3);
    for (int steps : bad) {
      run(x, steps, BAD, 3, 3);
      value(x, 2, 2, 3);
    }
    run(x, 0, NONE, 0, 0);
  }

  private static void noTerm() {
    Counted x = base();
    int[] steps = {0, 1, MOST, -1, MOST + 1};
    for (int n : steps) {
      CHECK.due("a type is none: run(" + n + ")", x.run(n), BAD);
    }
    CHECK.due("a fault", Check.term(x, 34), ODD);
    CHECK.due("is none", x.run(MOST), BAD);
    Check.term(x, 26);
    run(x, 1, 0, 1, 1);
    x.clear();
    for (int n : steps) {
      CHECK.due("cleared: run(" + n + ")", x.run(n), BAD);
    }
  }

  private static void fromItsBeginning() {
    Counted x = term(24, 24, 23, 1, 23, 2, 23, 3);
    run(x, 3, NONE, 1, 3);
    run(x, 2, NONE, 0, 2);
    run(x, MOST, 4, 5, 5);
    value(x, 4, 2, 6);
    run(x, 4, NONE, 3, 4);
    CHECK.due("values of the longer run are none", x.value(3, 0), NONE);
    run(x, 5, 4, 5, 5);
    value(x, 4, 2, 6);
  }

  // ---- values

  private static void numbered() {
    Counted x = term(29, 3, 0, 24, 23, 1, 23, 2, 1, 21, INT, 20, 0, 7, 31, CHOICE, 4, 25, 23, 3, 23, 3);
    run(x, MOST, 8, 9, 9);
    int[] kinds = {2, 2, 2, 4, 2, 2, 3, 6, 5};
    int[] numbers = {1, 2, 3, 0, 3, 3, 0, 4, 131};
    for (int k = 0; k < kinds.length; k++) {
      value(x, k, kinds[k], numbers[k]);
    }
    CHECK.due("part 0", x.value(8, 2), 2);
    CHECK.due("part 1", x.value(8, 3), 3);
    CHECK.due("part 7", x.value(8, 9), 7);
  }

  private static void whenBegun() {
    Counted x = term(33, INT_INT, 21, INT, 22, 20, 1, 20, 0);
    run(x, 0, NONE, 0, 0);
    run(x, 1, NONE, 1, 1);
    value(x, 0, 4, 0);
    run(x, 2, 0, 1, 2);
    x = term(29, 2, 0, 33, INT_INT, 21, INT, 20, 0, 1, 21, INT, 20, 0);
    run(x, MOST, 2, 3, 4);
    CHECK.due("the 33's", x.value(2, 2), 0);
    CHECK.due("the next 21 has one of its own", x.value(2, 3), 1);
  }

  private static void lastFirst() {
    // 32, 31, 23, and then the chosen: what is not chosen is not begun.
    Counted x = term(32, 2, 1, 23, 8, 4, 23, 9, 31, CHOICE, 1, 23, 7);
    run(x, 3, NONE, 2, 3);
    value(x, 0, 2, 7);
    value(x, 1, 6, 1);
    run(x, 4, 2, 3, 4);
    value(x, 2, 2, 8);
  }

  /** 4n + 4 values and 9n + 9 steps: counts up to n, and is n. */
  private static int[] calls(int n) {
    return Check.text(22, 33, INT_INT, 21, INT, 28, 25, 20, 0, 23, n, 22, 20, 1, 24, 20, 0, 23, 1, 20, 0, 23, 0);
  }

  private static void mostValues() {
    Counted x = term(calls(499));
    run(x, MOST, 1997, 2000, 9 * 499 + 9);
    value(x, 1999, 3, 0);
    x = term(Check.join(Check.times(2, 24, 23, 0), calls(498)));
    run(x, MOST, 1999, 2000, 9 * 498 + 9 + 4);
    value(x, 1999, 2, 498);
    CHECK.due("value 2000", x.value(2000, 0), NONE);
    x = term(Check.join(Check.text(31, CHOICE, 1), Check.times(2, 24, 23, 0), calls(498)));
    run(x, MOST, ROOM, 2000, 9 * 498 + 9 + 5);
    value(x, 1999, 2, 498);
    CHECK.due("value 2000", x.value(2000, 0), NONE);
  }

  /** A term behind 1997 values and so many more, of the 26s of 28s; variable 0 is a number. */
  private static Counted behindValues(int more, int... text) {
    return term(Check.join(Check.text(22, 21, INT), Check.times(more, 28, 26), text, Check.times(more, 20, 0), calls(498)));
  }

  /** The steps before such a term. */
  private static int stepsBefore(int more) {
    return 2 + 9 * 498 + 9 + 2 * more;
  }

  /** A term whose own value is its only one: it comes as the 2000th, and as one more it does not. */
  private static void oneMore(int steps, int... text) {
    Counted x = behindValues(2, text);
    run(x, MOST, 1999, 2000, stepsBefore(2) + steps);
    x = behindValues(3, text);
    run(x, MOST, ROOM, 2000, stepsBefore(3) + (text[0] == 33 ? 1 : steps));
    value(x, 1999, 3, 1);
    CHECK.due("value(2000, 0)", x.value(2000, 0), NONE);
  }

  private static void oneMoreWouldCome() {
    oneMore(1, 21, INT, 20, 0);
    oneMore(1, 23, 5);
    oneMore(3, 24, 20, 0, 20, 0);
    oneMore(3, 25, 20, 0, 20, 0);
    oneMore(1, 26);
    oneMore(1, 27);
    oneMore(1, 29, 0);
    oneMore(2, 29, 1, 7, 20, 0);
    oneMore(2, 31, CHOICE, 1, 20, 0);
    oneMore(2, 33, INT_INT, 21, INT, 20, 0);
  }

  /** Variables: 0 a number, 1 a choice, 2 a record, 3 a BOOL, 4 a function; there are 2000 values. */
  private static Counted withoutValue(int... text) {
    int[] function = {21, INT, 20, 0};
    int[] choice = {31, CHOICE, 1, 23, 8};
    int[] record = {29, 1, 0, 23, 9};
    return term(Check.join(Check.text(22, 21, INT_INT, 22, 21, BOOL, 22, 21, RECORD, 22, 21, CHOICE, 22, 21, INT, 28, 26), text,
        Check.text(20, 0), calls(496), choice, record, Check.text(26), function));
  }

  private static void noneMoreNeeded() {
    int[][] texts = {{20, 0}, {22, 20, 4, 20, 0}, {28, 20, 3, 20, 0, 20, 0}, {30, 0, 20, 2}, {32, 2, 1, 20, 0, 4, 20, 1, 20, 1}};
    int[] numbers = {496, 496, 496, 9, 8};
    for (int i = 0; i < texts.length; i++) {
      Counted x = withoutValue(texts[i]);
      int answer = x.run(MOST);
      CHECK.due("done " + i, answer >= 0 ? 1 : 0, 1);
      CHECK.due("values " + i, x.count(2), 2000);
      value(x, answer, 2, numbers[i]);
    }
    CHECK.due("and one more", withoutValue(23, 1).run(MOST), ROOM);
  }

  // ---- terms that are begun and not done

  /** How many sums wait in a function that calls itself, and what comes in each call. */
  private static final int DEEP = 280, CALL = 11;

  /** A term that, when it is begun, makes so many that are begun and not done. */
  private static Counted inside(int place, int... text) {
    int sums = place - 3 - DEEP;
    int[] x = Check.join(Check.times(sums, 24, 23, 0), Check.text(22, 21, ALL, 23, 0, 29, 1, 0), text);
    return term(Check.join(Check.text(22, 33, INT_INT, 21, INT, 28, 25, 20, 0, 23, 1), x,
        Check.text(24, 23, 0, 22, 20, 1, 24, 20, 0, 23, -1, 23, DEEP)));
  }

  /** The steps before such a term. */
  private static int stepsInside(int place) {
    return 4 + CALL * DEEP + 4 + 2 * (place - 3 - DEEP) + 3;
  }

  private static void done(int place, int... text) {
    Counted x = inside(place, text);
    int answer = x.run(MOST);
    CHECK.due("at " + place + ": " + Arrays.toString(text), answer >= 0 ? 1 : 0, 1);
    value(x, answer, 2, 0);
  }

  /** No room: so many steps of the term were begun. */
  private static void noRoom(int place, int begun, int... text) {
    Counted x = inside(place, text);
    String name = "at " + place + ": " + Arrays.toString(text);
    CHECK.due(name, x.run(MOST), ROOM);
    CHECK.due("steps " + name, x.count(3), stepsInside(place) + begun);
    CHECK.due("again " + name, x.run(MOST), ROOM);
  }

  private static void atMost300() {
    int[][] alone = {{20, 0}, {20, 1}, {21, INT, 20, 0}, {23, 5}, {26}, {27}, {29, 0}};
    for (int[] text : alone) {
      done(299, text);
      done(300, text);
      noRoom(301, 0, text);
    }
    int[][] around = {{24, 23, 1, 23, 2}, {25, 23, 1, 23, 2}, {28, 26, 23, 1, 23, 2}, {22, 21, INT, 20, 0, 23, 5}, {29, 1, 0, 26},
        {31, CHOICE, 4, 26}};
    for (int[] text : around) {
      done(299, text);
      noRoom(300, 1, text);
      noRoom(301, 0, text);
    }
    int[][] aroundTwo = {{30, 0, 29, 1, 0, 26}, {32, 2, 0, 26, 7, 27, 31, ENDS, 7, 23, 1}};
    for (int[] text : aroundTwo) {
      done(298, text);
      noRoom(299, 2, text);
      noRoom(300, 1, text);
      noRoom(301, 0, text);
    }
  }

  private static void notBegun() {
    // The 301st is refused before its step and its value.
    Counted x = inside(301, 23, 5);
    CHECK.due("run(20000)", x.run(MOST), ROOM);
    int values = x.count(2);
    CHECK.due("steps", x.count(3), stepsInside(301));
    CHECK.due("its value has not come", x.value(values, 0), NONE);
    value(x, values - 1, 4, 0);
    x = inside(300, 23, 5);
    CHECK.due("at 300", x.run(stepsInside(300) + 1), NONE);
    value(x, x.count(2) - 2, 2, 5);
    // All that is in the 29 around it is done, so no step is wanting for that one's value.
    value(x, x.count(2) - 1, 5, 1);
  }

  private static void chosenOf28() {
    done(299, 28, 26, 24, 23, 0, 23, 0, 23, 0);
    done(299, 28, 27, 23, 0, 24, 23, 0, 23, 0);
    done(299, 28, 26, 28, 27, 23, 1, 24, 23, 0, 23, 0, 23, 0);
    noRoom(300, 1, 28, 26, 24, 23, 0, 23, 0, 23, 0);
    noRoom(299, 4, 28, 26, 24, 24, 23, 0, 23, 0, 23, 0, 23, 0);
  }

  private static void chosenOf32() {
    int[] text = {32, 2, 1, 24, 20, 0, 20, 0, 4, 23, 0, 31, CHOICE, 1, 23, 6};
    done(298, text);
    noRoom(299, 2, text);
    // With a variable as its last E: 299 and 300, and then the chosen at 299.
    int[] bound = {22, 21, CHOICE, 32, 2, 1, 24, 20, 0, 20, 0, 4, 23, 0, 20, 0, 31, CHOICE, 1, 23, 6};
    done(298, bound);
    done(297, 22, 21, CHOICE, 22, 21, INT, 32, 2, 1, 24, 20, 0, 20, 0, 4, 23, 0, 20, 1, 24, 23, 1, 23, 2, 31, CHOICE, 1, 23, 6);
  }

  private static void appliedIn22() {
    done(299, 22, 21, INT, 24, 20, 0, 20, 0, 23, 1);
    done(299, 22, 21, INT, 22, 21, INT, 24, 20, 0, 20, 0, 20, 0, 23, 1);
    noRoom(300, 1, 22, 21, INT, 24, 20, 0, 20, 0, 23, 1);
    noRoom(299, 5, 22, 21, INT, 24, 24, 20, 0, 20, 0, 20, 0, 23, 1);
  }

  private static void partOf33() {
    done(300, 33, INT_INT, 21, INT, 20, 0);
    noRoom(301, 0, 33, INT_INT, 21, INT, 20, 0);
    done(299, 22, 33, INT_INT, 21, INT, 24, 20, 0, 20, 0, 23, 1);
  }

  // ---- value()

  private static void noSuchValue() {
    Counted x = base();
    int[] none = {-1, 0, 1, 1999, 2000, GREATEST, LEAST};
    for (int k : none) {
      CHECK.due("before any run: value(" + k + ", 0)", x.value(k, 0), NONE);
    }
    Check.term(x, 26);
    CHECK.due("a term that was not run", x.value(0, 0), NONE);
    x.run(MOST);
    for (int k : none) {
      CHECK.due("value(" + k + ", 0)", x.value(k, 0), k == 0 ? 3 : NONE);
      CHECK.due("value(" + k + ", 1)", x.value(k, 1), k == 0 ? 1 : NONE);
      CHECK.due("value(" + k + ", 2)", x.value(k, 2), NONE);
      CHECK.due("value(" + k + ", greatest)", x.value(k, GREATEST), NONE);
    }
  }

  private static void badValue() {
    Counted x = base();
    int[] ks = {0, -1, 1, GREATEST, LEAST};
    int[] bad = {-1, -2, LEAST, LEAST + 2};
    for (int k : ks) {
      for (int what : bad) {
        CHECK.due("before any run: value(" + k + ", " + what + ")", x.value(k, what), BAD);
      }
    }
    Check.term(x, 29, 1, 0, 26);
    x.run(MOST);
    for (int k : ks) {
      for (int what : bad) {
        CHECK.due("value(" + k + ", " + what + ")", x.value(k, what), BAD);
      }
    }
  }

  /** A value's parts, all others being none. */
  private static void parts(Counted x, int k, int labels, int... parts) {
    int next = 0;
    for (int l = 0; l < 40; l++) {
      boolean has = l < 8 && (labels >> l & 1) == 1;
      CHECK.due("part " + l + " of value " + k, x.value(k, l + 2), has ? parts[next] : NONE);
      next += has ? 1 : 0;
    }
    CHECK.due("a far part", x.value(k, GREATEST), NONE);
  }

  private static void valueParts() {
    Counted x = term(29, 8, 0, 23, 0, 1, 23, 1, 2, 23, 2, 3, 23, 3, 4, 23, 4, 5, 23, 5, 6, 23, 6, 7, 23, 7);
    run(x, MOST, 8, 9, 9);
    value(x, 8, 5, 255);
    parts(x, 8, 255, 0, 1, 2, 3, 4, 5, 6, 7);
    parts(x, 7, 0);
    x = term(29, 0);
    run(x, 1, 0, 1, 1);
    value(x, 0, 5, 0);
    parts(x, 0, 0);
    x = term(29, 2, 0, 26, 7, 21, INT, 20, 0);
    run(x, MOST, 2, 3, 3);
    value(x, 2, 5, 129);
    parts(x, 2, 129, 0, 1);
    parts(x, 1, 0);
    value(x, 1, 4, 0);
  }

  private static void choiceParts() {
    Counted x = term(29, 2, 0, 31, ENDS, 7, 23, 5, 1, 31, ENDS, 0, 23, 6);
    run(x, MOST, 4, 5, 5);
    value(x, 1, 6, 7);
    parts(x, 1, 128, 0);
    value(x, 3, 6, 0);
    parts(x, 3, 1, 2);
    // What was here in the run before is not seen.
    Check.term(x, 29, 1, 3, 31, CHOICE, 4, 26);
    run(x, MOST, 2, 3, 3);
    parts(x, 1, 16, 0);
    parts(x, 2, 8, 1);
  }

  /** Values of a run that was not done, or had no room, are told as well. */
  private static void latestRun() {
    Counted x = term(29, 2, 0, 23, 4, 1, 26);
    run(x, 2, NONE, 1, 2);
    value(x, 0, 2, 4);
    CHECK.due("value 1", x.value(1, 0), NONE);
    run(x, MOST, 2, 3, 3);
    Check.type(x, 3);
    Check.term(x, 27);
    value(x, 2, 5, 3);
    CHECK.due("count(2) until the next run()", x.count(2), 3);
    CHECK.due("count(3) until the next run()", x.count(3), 3);
    run(x, MOST, 0, 1, 1);
    value(x, 0, 3, 0);
    CHECK.due("value 1", x.value(1, 0), NONE);
  }

  public static void main(String[] args) {
    CHECK.edge("24 E E: their sum (32 bits).", MachineEdgesTest::sums);
    CHECK.edge("25 E E: whether the first is less.", MachineEdgesTest::lesses);
    CHECK.edge("each term in it that is begun is one", MachineEdgesTest::stepByStep);
    CHECK.edge("(the last E of 32 first)", MachineEdgesTest::lastFirst);
    CHECK.edge("VALUES are numbered from 0 on as they come", MachineEdgesTest::numbered);
    CHECK.edge("33 (when it is begun; its E's is it then)", MachineEdgesTest::whenBegun);
    CHECK.edge("At most 2000", MachineEdgesTest::mostValues);
    CHECK.edge("ROOM: one more would come", MachineEdgesTest::oneMoreWouldCome);
    CHECK.edge("of 21, 23 to 27, 29, 31, 33", MachineEdgesTest::noneMoreNeeded);
    CHECK.edge("there would be more than 300 terms begun that are not done", MachineEdgesTest::atMost300);
    CHECK.edge("(that term is not begun then)", MachineEdgesTest::notBegun);
    CHECK.edge("the chosen of 28 and 32", MachineEdgesTest::chosenOf28);
    CHECK.edge("and 32, what is applied in 22", MachineEdgesTest::chosenOf32);
    CHECK.edge("what is applied in 22", MachineEdgesTest::appliedIn22);
    CHECK.edge("E of 33, are done with then", MachineEdgesTest::partOf33);
    CHECK.edge("in STEPS up to so many (0 .. 20000)", MachineEdgesTest::mostSteps);
    CHECK.edge("(0 .. 20000)", MachineEdgesTest::noSteps);
    CHECK.edge("NONE: it is not done by then", MachineEdgesTest::endless);
    CHECK.edge("BAD: no TERM", MachineEdgesTest::noTerm);
    CHECK.edge("or the number.", MachineEdgesTest::badNumber);
    CHECK.edge("(Each time from its beginning.)", MachineEdgesTest::fromItsBeginning);
    CHECK.edge("Of a VALUE of the latest run()", MachineEdgesTest::latestRun);
    CHECK.edge("LABELS as bits of a RECORD", MachineEdgesTest::valueParts);
    CHECK.edge("the LABEL of a CHOICE (0 of a FUNCTION), from 2 on the VALUE of part what - 2.", MachineEdgesTest::choiceParts);
    CHECK.edge("NONE, BAD as node().", MachineEdgesTest::noSuchValue);
    CHECK.edge("BAD as node().", MachineEdgesTest::badValue);
    CHECK.end();
  }
}
