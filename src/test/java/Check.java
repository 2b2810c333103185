import java.io.IOException;
import java.nio.file.Files;
import java.nio.file.Path;

/** What the tests share: it tells each answer that is not the one that is due. */
final class Check {
  private static final Path DOCUMENT = Path.of("../shared/DOC.md");
  private int asked;
  private int wrong;
  private int edges;
  private String about = "";

  void due(String call, long got, long want) {
    asked++;
    if (got != want) {
      wrong++;
      if (wrong <= 40) {
        System.out.println(about + call + " answered " + got + ", due is " + want);
      }
    }
  }

  /** A test of a sentence of the document that names an edge. */
  void edge(String sentence, Runnable test) {
    about = "'" + sentence + "': ";
    edges++;
    due("the document says so", documentSays(sentence) ? 1 : 0, 1);
    int before = asked;
    test.run();
    due("something was asked", asked > before ? 1 : 0, 1);
    about = "";
  }

  /** Where there is no document nothing can be said against a sentence. */
  private static boolean documentSays(String sentence) {
    try {
      return !Files.exists(DOCUMENT) || Files.readString(DOCUMENT).contains(sentence);
    } catch (IOException e) {
      return true;
    }
  }

  /** A node of a kind and labels: its parts by rising labels, and that there are no others. */
  void node(Counted x, int k, int kind, int labels, int... parts) {
    due("kind of " + k, x.node(k, 0), kind);
    due("labels of " + k, x.node(k, 1), labels);
    int next = 0;
    for (int l = 0; l < 9; l++) {
      boolean has = (labels >> l & 1) == 1;
      due("part " + l + " of " + k, x.node(k, l + 2), has ? parts[next] : RoundTypes.NONE);
      next += has ? 1 : 0;
    }
  }

  boolean good() {
    return wrong == 0;
  }

  static void feed(Counted x, int... numbers) {
    for (int n : numbers) {
      x.feed(n);
    }
  }

  /** Feeds a text and reads it as a type. */
  static int type(Counted x, int... numbers) {
    feed(x, numbers);
    return x.type();
  }

  /** Feeds a text and reads it as a term. */
  static int term(Counted x, int... numbers) {
    feed(x, numbers);
    return x.term();
  }

  /** The text of a type of so many nodes, an odd number: functions, each in the one before, of INTs. */
  static int[] chain(int nodes) {
    int[] text = new int[nodes];
    for (int i = 0; i < nodes; i++) {
      text[i] = i < nodes / 2 ? 5 : 3;
    }
    return text;
  }

  /** Adds nodes until there are so many, by few calls. */
  static void fill(Counted x, int nodes) {
    int lacking = nodes - x.count(0);
    if (lacking > 0 && lacking % 2 == 0) {
      type(x, 3);
      lacking--;
    }
    if (lacking > 0) {
      type(x, chain(lacking));
    }
  }

  /** One text behind the other. */
  static int[] join(int[]... texts) {
    int length = 0;
    for (int[] text : texts) {
      length += text.length;
    }
    int[] joined = new int[length];
    int at = 0;
    for (int[] text : texts) {
      System.arraycopy(text, 0, joined, at, text.length);
      at += text.length;
    }
    return joined;
  }

  /** A text so many times. */
  static int[] times(int times, int... text) {
    int[] all = new int[times * text.length];
    for (int i = 0; i < all.length; i++) {
      all[i] = text[i % text.length];
    }
    return all;
  }

  static int[] text(int... numbers) {
    return numbers;
  }

  void end() {
    due("objects used for more than " + Counted.MOST + " calls:", Counted.usedTooLong(), 0);
    System.out.println((edges > 0 ? edges + " edges, " : "") + (asked - wrong) + " answers are as due, " + wrong + " are not");
    if (wrong != 0) {
      System.exit(1);
    }
  }
}
