import java.lang.reflect.Array;
import java.lang.reflect.Constructor;
import java.lang.reflect.Field;
import java.lang.reflect.Method;
import java.lang.reflect.Modifier;
import java.util.ArrayDeque;
import java.util.Collections;
import java.util.Deque;
import java.util.IdentityHashMap;
import java.util.Set;
import java.util.TreeSet;

/** The public face, the constants, and the room that an object takes. */
final class FaceTest {
  private static final Check CHECK = new Check();
  private static final String[] FACE = {"clear()", "feed(int)", "type()", "term()", "place()", "node(int,int)",
      "below(int,int)", "depth(int,int)", "way(int,int,int)", "unite(int,int)", "meet(int,int)", "run(int)",
      "value(int,int)", "count(int)"};

  private static void constants() {
    CHECK.due("NONE", RoundTypes.NONE, -1);
    CHECK.due("BAD", RoundTypes.BAD, -2);
    CHECK.due("FULL", RoundTypes.FULL, -3);
    CHECK.due("ODD", RoundTypes.ODD, -11);
    CHECK.due("SHORT", RoundTypes.SHORT, -12);
    CHECK.due("LOOSE", RoundTypes.LOOSE, -13);
    CHECK.due("LONG", RoundTypes.LONG, -14);
    CHECK.due("MISFIT", RoundTypes.MISFIT, -15);
    CHECK.due("ROOM", RoundTypes.ROOM, -16);
  }

  private static void members() {
    Set<String> due = new TreeSet<>(Set.of(FACE));
    Set<String> names = new TreeSet<>();
    for (String m : FACE) {
      names.add(m.substring(0, m.indexOf('(')));
    }
    for (Method m : RoundTypes.class.getDeclaredMethods()) {
      String text = m.toString().replaceAll(".*RoundTypes\\.", "");
      boolean open = !Modifier.isPrivate(m.getModifiers());
      CHECK.due("in the face: " + text, open == due.remove(text) ? 1 : 0, 1);
      CHECK.due("answers an int: " + text, !open || m.getReturnType() == int.class ? 1 : 0, 1);
    }
    CHECK.due("missing: " + due, due.size(), 0);
    int open = 0;
    for (Field f : RoundTypes.class.getDeclaredFields()) {
      open += Modifier.isPrivate(f.getModifiers()) ? 0 : 1;
    }
    CHECK.due("fields that are not private", open, 9);
    Constructor<?>[] made = RoundTypes.class.getDeclaredConstructors();
    CHECK.due("constructors", made.length, 1);
    CHECK.due("public and final", RoundTypes.class.getModifiers(), Modifier.PUBLIC | Modifier.FINAL);
    for (Class<?> inside : RoundTypes.class.getDeclaredClasses()) {
      CHECK.due("static: " + inside, Modifier.isStatic(inside.getModifiers()) ? 1 : 0, 1);
      for (Method m : inside.getDeclaredMethods()) {
        CHECK.due("a name of its own: " + m, names.contains(m.getName()) ? 1 : 0, 0);
      }
    }
  }

  /** How many objects and arrays hang on an object, and how many fields and elements they have. */
  private static long[] room(Object start) throws IllegalAccessException {
    Set<Object> seen = Collections.newSetFromMap(new IdentityHashMap<>());
    Deque<Object> next = new ArrayDeque<>();
    next.add(start);
    seen.add(start);
    long size = 0;
    while (!next.isEmpty()) {
      Object o = next.remove();
      if (o.getClass().isArray()) {
        size += Array.getLength(o);
        continue;
      }
      for (Field f : o.getClass().getDeclaredFields()) {
        if (Modifier.isStatic(f.getModifiers())) {
          continue;
        }
        size++;
        f.setAccessible(true);
        Object part = f.get(o);
        if (!f.getType().isPrimitive() && part != null && seen.add(part)) {
          next.add(part);
        }
      }
    }
    return new long[] {seen.size(), size};
  }

  private static void sizes() throws IllegalAccessException {
    Counted x = new Counted();
    long[] before = room(x.inside());
    System.out.println("an object: " + before[0] + " objects and arrays, " + before[1] + " fields and elements");
    CHECK.due("a small object", before[1] <= 125_000 ? 1 : 0, 1);
    Check.type(x, 5, 3, 3);
    Check.term(x, 22, 33, 0, 21, 1, 28, 25, 20, 0, 23, 90, 22, 20, 1, 24, 20, 0, 23, 1, 20, 0, 23, 0);
    for (int i = 0; i < 100; i++) {
      x.run(20000);
      x.unite(0, 1);
      x.depth(0, 2);
    }
    long[] after = room(x.inside());
    CHECK.due("objects after many calls", after[0], before[0]);
    CHECK.due("elements after many calls", after[1], before[1]);
  }

  public static void main(String[] args) throws IllegalAccessException {
    constants();
    members();
    sizes();
    CHECK.end();
  }
}
