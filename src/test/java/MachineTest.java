import java.util.Arrays;

/** Promises 13 and 14: run, value. */
final class MachineTest {
  private static final int NONE = RoundTypes.NONE, BAD = RoundTypes.BAD, ROOM = RoundTypes.ROOM;
  /** The nodes of a base(). */
  private static final int INT = 0, INT_INT = 2, CHOICE = 5, LOOP = 8, LIST = 11;
  private static final Check CHECK = new Check();

  /** 0 INT, 1 BOOL, 2 INT to INT, 5 a choice of 1 INT and 4 BOOL, 8 INT to NOTHING, 11 a list of INT. */
  private static Counted base() {
    Counted x = new Counted();
    Check.type(x, 3);
    Check.type(x, 4);
    Check.type(x, 5, 3, 3);
    Check.type(x, 7, 2, 1, 3, 4, 4);
    Check.type(x, 5, 3, 2);
    Check.type(x, 8, 0, 7, 2, 0, 6, 0, 1, 6, 2, 0, 3, 1, 9, 0);
    return x;
  }

  /** A term, run to its end: its value's number, the values and steps; run before its last step it is not done. */
  private static Counted done(int value, int values, int steps, int... text) {
    Counted x = base();
    String name = Arrays.toString(text);
    CHECK.due("term() of " + name, Check.term(x, text) >= 0 ? 1 : 0, 1);
    CHECK.due("run(steps - 1) of " + name, x.run(steps - 1), NONE);
    CHECK.due("its steps of " + name, x.count(3), steps - 1);
    CHECK.due("run(20000) of " + name, x.run(20000), value);
    CHECK.due("run(steps) of " + name, x.run(steps), value);
    CHECK.due("count(2) of " + name, x.count(2), values);
    CHECK.due("count(3) of " + name, x.count(3), steps);
    return x;
  }

  private static void value(Counted x, int k, int kind, int number) {
    CHECK.due("kind of value " + k, x.value(k, 0), kind);
    CHECK.due("number of value " + k, x.value(k, 1), number);
    if (kind < 5) {
      for (int what = 2; what < 11; what++) {
        CHECK.due("part of value " + k, x.value(k, what), NONE);
      }
    }
  }

  private static void plain() {
    value(done(0, 1, 1, 23, -5), 0, 2, -5);
    value(done(0, 1, 1, 26), 0, 3, 1);
    value(done(0, 1, 1, 27), 0, 3, 0);
    value(done(2, 3, 3, 24, 23, 40, 23, 2), 2, 2, 42);
    value(done(2, 3, 3, 24, 23, Integer.MAX_VALUE, 23, 1), 2, 2, Integer.MIN_VALUE);
    value(done(2, 3, 3, 25, 23, 1, 23, 2), 2, 3, 1);
    value(done(2, 3, 3, 25, 23, 2, 23, 2), 2, 3, 0);
    value(done(2, 3, 3, 25, 23, Integer.MIN_VALUE, 23, Integer.MAX_VALUE), 2, 3, 1);
    value(done(0, 1, 1, 21, INT, 24, 20, 0, 20, 0), 0, 4, 0);
  }

  private static void branches() {
    value(done(1, 2, 3, 28, 26, 23, 5, 23, 6), 1, 2, 5);
    value(done(1, 2, 3, 28, 27, 23, 5, 23, 6), 1, 2, 6);
    value(done(3, 4, 5, 28, 25, 23, 1, 23, 2, 23, 5, 23, 6), 3, 2, 5);
  }

  private static void records() {
    Counted x = done(2, 3, 3, 29, 2, 1, 23, 5, 6, 26);
    value(x, 2, 5, 66);
    int[] parts = {NONE, 0, NONE, NONE, NONE, NONE, 1, NONE, NONE};
    for (int l = 0; l < parts.length; l++) {
      CHECK.due("part " + l, x.value(2, l + 2), parts[l]);
    }
    value(done(0, 1, 1, 29, 0), 0, 5, 0);
    value(done(1, 3, 4, 30, 6, 29, 2, 1, 23, 5, 6, 26), 1, 3, 1);
    Counted y = done(8, 9, 9, 29, 8, 0, 23, 0, 1, 23, 1, 2, 23, 2, 3, 23, 3, 4, 23, 4, 5, 23, 5, 6, 23, 6, 7, 23, 7);
    value(y, 8, 5, 255);
    for (int l = 0; l < 8; l++) {
      CHECK.due("part " + l + " of eight", y.value(8, l + 2), l);
    }
  }

  private static void choices() {
    Counted x = done(1, 2, 2, 31, CHOICE, 4, 26);
    value(x, 1, 6, 4);
    for (int l = 0; l < 9; l++) {
      CHECK.due("part " + l, x.value(1, l + 2), l == 4 ? 0 : NONE);
    }
    // The last E is done first; only the case of its label is begun.
    value(done(3, 4, 6, 32, 2, 1, 24, 20, 0, 23, 1, 4, 23, 9, 31, CHOICE, 1, 23, 7), 3, 2, 8);
    value(done(2, 3, 4, 32, 2, 1, 24, 20, 0, 23, 1, 4, 23, 9, 31, CHOICE, 4, 27), 2, 2, 9);
    value(done(0, 2, 4, 32, 2, 1, 20, 0, 4, 20, 0, 31, CHOICE, 4, 27), 0, 3, 0);
  }

  private static void functions() {
    // The function's value comes before the argument's; the body is done with what was bound around the function.
    value(done(3, 4, 6, 22, 21, INT, 24, 20, 0, 23, 1, 23, 5), 3, 2, 6);
    Counted x = done(4, 5, 9, 22, 22, 21, INT, 21, INT, 24, 20, 0, 20, 1, 23, 5, 23, 8);
    value(x, 0, 4, 0);
    value(x, 1, 2, 5);
    value(x, 2, 4, 0);
    value(x, 3, 2, 8);
    value(x, 4, 2, 13);
    // What is bound where a function is applied is not seen in it.
    value(done(1, 5, 10, 22, 22, 21, INT, 22, 21, INT_INT, 20, 0, 21, INT, 20, 1, 23, 5, 23, 8), 1, 2, 5);
    // 33 and its 21 are two steps and one value.
    value(done(0, 1, 2, 33, INT_INT, 21, INT, 20, 0), 0, 4, 0);
    value(done(1, 2, 5, 22, 33, INT_INT, 21, INT, 20, 0, 23, 3), 1, 2, 3);
    // The next 21 has a value of its own.
    Counted y = done(2, 3, 4, 29, 2, 0, 33, INT_INT, 21, INT, 20, 0, 1, 21, INT, 23, 6);
    CHECK.due("the first part", y.value(2, 2), 0);
    CHECK.due("the second part", y.value(2, 3), 1);
  }

  private static void itself() {
    Counted x = base();
    Check.term(x, 33, INT_INT, 21, INT, 20, 0);
    CHECK.due("33 without its 21", x.run(1), NONE);
    CHECK.due("its value is there", x.count(2), 1);
    value(x, 0, 4, 0);
    // The sum of a list: 33 (list -> INT), by cases, of 3 and 4.
    int[] list = {31, LIST, 1, 29, 2, 0, 23, 3, 1, 31, LIST, 1, 29, 2, 0, 23, 4, 1, 31, LIST, 0, 29, 0};
    CHECK.due("LIST to INT", Check.type(x, 5, 8, 0, 7, 2, 0, 6, 0, 1, 6, 2, 0, 3, 1, 9, 0, 3), 16);
    int[] sum = {22, 33, 16, 21, LIST, 32, 2, 0, 23, 0, 1, 24, 30, 0, 20, 0, 22, 20, 2, 30, 1, 20, 0, 20, 0};
    Check.feed(x, sum);
    CHECK.due("its type", Check.term(x, list), x.node(16, 3));
    int answer = x.run(20000);
    CHECK.due("the sum", x.value(answer, 1), 7);
    CHECK.due("its values", x.count(2), 12);
    CHECK.due("its number", answer, 11);
  }

  /** Counts up from 0 to a number by calling itself; what waits for the call is a 24, or nothing. */
  private static Counted counting(int to, boolean waits) {
    Counted x = base();
    Check.feed(x, 22, 33, INT_INT, 21, INT, 28, 25, 20, 0, 23, to);
    if (waits) {
      Check.feed(x, 24, 23, 0);
    }
    CHECK.due("counting", Check.term(x, 22, 20, 1, 24, 20, 0, 23, 1, 20, 0, 23, 0) >= 0 ? 1 : 0, 1);
    return x;
  }

  private static void manyCalls() {
    // Without waiting: 4 values a call and 9 steps; nothing is left open.
    Counted x = counting(499, false);
    CHECK.due("499 calls", x.run(20000), 1997);
    CHECK.due("their values", x.count(2), 2000);
    CHECK.due("their steps", x.count(3), 4 + 499 * 9 + 5);
    CHECK.due("the end", x.value(1997, 1), 499);
    x = counting(500, false);
    CHECK.due("500 calls", x.run(20000), ROOM);
    CHECK.due("their values", x.count(2), 2000);
    CHECK.due("the last one", x.value(1999, 0), 3);
    // 2 values, 499 calls' 4 and the 23 and 25: the 23 of the call's argument is begun and has no room.
    CHECK.due("their steps", x.count(3), 4 + 499 * 9 + 9);
  }

  /** A term whose value is the one too many, when it is begun or when all in it is done. */
  private static void lastValue(int... text) {
    Counted x = base();
    // 1996 values come of these 498 calls.
    int[] calls = {22, 33, INT_INT, 21, INT, 28, 25, 20, 0, 23, 498, 22, 20, 1, 24, 20, 0, 23, 1, 20, 0, 23, 0};
    Check.feed(x, text);
    CHECK.due("a term", Check.term(x, calls) >= 0 ? 1 : 0, 1);
    CHECK.due("one too many", x.run(20000), ROOM);
    CHECK.due("values", x.count(2), 2000);
    int steps = x.count(3);
    CHECK.due("its last step", x.run(steps), ROOM);
    CHECK.due("before that", x.run(steps - 1), NONE);
  }

  private static void lastValues() {
    // Each is a 21 by those calls; what comes behind them are 3 values and the one too many.
    lastValue(22, 21, INT, 24, 23, 0, 30, 0, 29, 1, 0, 23, 0);
    lastValue(22, 21, INT, 25, 23, 0, 30, 0, 29, 1, 0, 23, 0);
    lastValue(22, 21, INT, 24, 23, 0, 24, 23, 0, 23, 0);
    lastValue(22, 21, INT, 29, 3, 0, 26, 1, 27, 2, 23, 0);
    lastValue(22, 21, INT, 31, CHOICE, 1, 24, 23, 0, 23, 1);
    lastValue(22, 21, INT, 29, 4, 0, 26, 1, 27, 2, 23, 0, 3, 21, INT, 20, 0);
    lastValue(22, 21, INT, 29, 4, 0, 26, 1, 27, 2, 23, 0, 3, 33, INT_INT, 21, INT, 20, 0);
    lastValue(22, 21, INT, 29, 4, 0, 26, 1, 27, 2, 23, 0, 3, 29, 0);
  }

  private static void deepCalls() {
    // Each call leaves a 24 open; its 28 has a 25 open in it, and a term in that.
    Counted x = counting(297, true);
    int answer = x.run(20000);
    CHECK.due("297 deep", answer >= 0 ? 1 : 0, 1);
    CHECK.due("the sum", x.value(answer, 1), 297);
    x = counting(298, true);
    answer = x.run(20000);
    CHECK.due("298 deep", answer, ROOM);
    CHECK.due("before the step", x.run(x.count(3)), NONE);
    CHECK.due("at the step", x.run(x.count(3) + 1), ROOM);
  }

  /** Lets 24s wait for their second part, so many, and then a 33 or what else is given. */
  private static int open(Counted x, int waiting, int... last) {
    for (int i = 0; i < waiting; i++) {
      Check.feed(x, 24, 23, 0);
    }
    return Check.term(x, last);
  }

  private static void openTerms() {
    Counted x = base();
    open(x, 50, 23, 7);
    CHECK.due("50 wait", x.run(20000), 100);
    CHECK.due("steps", x.count(3), 101);
    // A function that waits in 60 sums for itself: 5 calls would make 300 open, and one more begun.
    Check.feed(x, 22, 33, INT_INT, 21, INT, 28, 25, 20, 0, 23, 1);
    for (int i = 0; i < 60; i++) {
      Check.feed(x, 24, 20, 0);
    }
    CHECK.due("a term", Check.term(x, 22, 20, 1, 20, 0, 20, 0, 23, 0), 4);
    CHECK.due("300 open", x.run(20000), ROOM);
    // 4 to begin; a call: 28, 25, 20, 23, 60 sums with a 20 each, 22, 20, 20; the fifth begins no 20 in its last sum.
    int call = 4 + 120 + 3;
    CHECK.due("steps", x.count(3), 4 + 4 * call + 4 + 119);
  }

  private static void endless() {
    Counted x = base();
    CHECK.due("a loop", Check.term(x, 22, 33, LOOP, 21, INT, 22, 20, 1, 20, 0, 23, 1), 10);
    CHECK.due("run(20000)", x.run(20000), NONE);
    CHECK.due("steps", x.count(3), 20000);
    CHECK.due("values", x.count(2), 2);
    CHECK.due("run(0)", x.run(0), NONE);
    CHECK.due("no steps", x.count(3), 0);
    CHECK.due("no values", x.count(2), 0);
    CHECK.due("run(3)", x.run(3), NONE);
    CHECK.due("values of three steps", x.count(2), 1);
    int list = x.count(0);
    // The loop by a 32: its choice goes round in it.
    Check.type(x, 5, 7, 2, 1, 3, 4, 4, 2);
    CHECK.due("a loop by 32", Check.term(x, 22, 33, list, 21, list + 1, 32, 2, 1, 22, 20, 2, 20, 1, 4, 22, 20, 2, 20, 1,
        20, 0, 31, list + 1, 1, 23, 1), list + 4);
    CHECK.due("run(20000)", x.run(20000), NONE);
    CHECK.due("values", x.count(2), 3);
  }

  /** 0 INT, 1 INT to INT, 4 such a function to ALL, 9 a choice. */
  private static Counted roundBase() {
    Counted x = new Counted();
    Check.type(x, 3);
    Check.type(x, 5, 3, 3);
    Check.type(x, 5, 5, 3, 3, 1);
    Check.type(x, 7, 1, 0, 1);
    return x;
  }

  /**
   * A function that applies itself for ever, by way of so many 22s of two 33s (5 steps, 2 values, 3 variables each) and
   * so many 32s of a variable (2 steps, no value, 1 variable): as many variables as can be bound in 20000 steps.
   */
  private static Counted goingRound(int applied, int sorted) {
    Counted x = roundBase();
    Check.feed(x, 22, 21, 9, 22, 33, 4, 21, 1);
    for (int i = 0; i < applied; i++) {
      Check.feed(x, 22, 33, 4, 21, 1);
    }
    for (int i = 0; i < sorted; i++) {
      Check.feed(x, 32, 1, 0);
    }
    int bound = 2 * applied + sorted;
    Check.feed(x, 22, 20, bound + 1, 33, 1, 21, 0, 20, 0);
    for (int i = 0; i < sorted; i++) {
      Check.feed(x, 20, bound + 1 - i);
    }
    for (int i = 0; i < applied; i++) {
      Check.feed(x, 33, 1, 21, 0, 20, 0);
    }
    CHECK.due("a term that goes round", Check.term(x, 21, 0, 20, 0, 31, 9, 0, 23, 0), 8);
    return x;
  }

  private static void manyVariables(int applied, int sorted) {
    String name = " of " + applied + " 22s and " + sorted + " 32s";
    Counted x = goingRound(applied, sorted);
    int steps = 4 + 5 * applied + 2 * sorted;
    int values = 1 + 2 * applied;
    int rounds = (20000 - 8) / steps;
    CHECK.due("whole rounds" + name, x.run(8 + rounds * steps), NONE);
    CHECK.due("their values" + name, x.count(2), 5 + rounds * values);
    CHECK.due("run(20000)" + name, x.run(20000), NONE);
    CHECK.due("its steps" + name, x.count(3), 20000);
  }

  private static void goingRound() {
    manyVariables(0, 4);
    manyVariables(0, 33);
    manyVariables(1, 11);
    manyVariables(2, 19);
    manyVariables(3, 26);
    // With fewer 32s there are too many values before the steps are used up.
    Counted x = goingRound(1, 1);
    CHECK.due("run(20000) with many values", x.run(20000), ROOM);
    CHECK.due("its values", x.count(2), 2000);
  }

  private static void wrong() {
    Counted x = base();
    CHECK.due("no term", x.run(10), BAD);
    Check.term(x, 24, 23, 1, 23, 2);
    CHECK.due("run(3)", x.run(3), 2);
    int[] bad = {-1, 20001, Integer.MAX_VALUE, Integer.MIN_VALUE};
    for (int n : bad) {
      CHECK.due("run(" + n + ")", x.run(n), BAD);
      CHECK.due("the run before stays", x.count(2), 3);
      CHECK.due("and its steps", x.count(3), 3);
    }
    CHECK.due("value(0, -1)", x.value(0, -1), BAD);
    CHECK.due("value(-1, -1)", x.value(-1, -1), BAD);
    CHECK.due("value(9, least)", x.value(9, Integer.MIN_VALUE), BAD);
    CHECK.due("value(3, 0)", x.value(3, 0), NONE);
    CHECK.due("value(-1, 0)", x.value(-1, 0), NONE);
    CHECK.due("value(greatest, 1)", x.value(Integer.MAX_VALUE, 1), NONE);
    CHECK.due("value(0, greatest)", x.value(0, Integer.MAX_VALUE), NONE);
    Check.term(x, 29, 1, 1, 23, 3);
    x.run(9);
    int[] none = {2, 4, 10, 34, 35, 66, Integer.MAX_VALUE};
    for (int what : none) {
      CHECK.due("value(1, " + what + ")", x.value(1, what), NONE);
    }
    CHECK.due("value(1, 3)", x.value(1, 3), 0);
  }

  public static void main(String[] args) {
    plain();
    branches();
    records();
    choices();
    functions();
    itself();
    manyCalls();
    lastValues();
    deepCalls();
    openTerms();
    endless();
    goingRound();
    wrong();
    CHECK.end();
  }
}
