import java.lang.reflect.InvocationTargetException;
import java.lang.reflect.Method;
import java.lang.reflect.Modifier;
import java.util.ArrayList;
import java.util.Arrays;
import java.util.Comparator;
import java.util.List;
import java.util.Random;

/**
 * Drawn calls with arguments at every edge and far beyond, in whatever state they come to: none throws, and the same calls
 * give the same answers on another object.
 */
public final class AnyCallTest {
  /** Texts take calls too, so an object is left well before its 512th. */
  private static final int CALLS = 160;
  private static final long[] EDGES = {Integer.MIN_VALUE, Integer.MIN_VALUE + 1, -1000000, -100, -2, -1, 0, 1, 2, 3, 4, 5, 6, 7, 8, 9, 10, 11, 12,
      13, 19, 20, 21, 22, 23, 24, 25, 31, 32, 33, 59, 60, 61, 63, 64, 97, 98, 99, 100, 127, 128, 255, 256, 998, 999, 1000, 1599, 1600, 1601,
      1999999999, 2000000000, 2000000001, Integer.MAX_VALUE - 1, Integer.MAX_VALUE};
  private static final long[] LONGS = {Long.MIN_VALUE, Long.MAX_VALUE, 1L << 32, (1L << 32) + 98, -(1L << 32), 1L << 63 | 1};

  private final List<Method> face = new ArrayList<>();
  private final Method river;
  private int made = 0;
  private int wrong = 0;

  private AnyCallTest() throws NoSuchMethodException {
    for (Method method : BearsTwo.class.getDeclaredMethods()) if (Modifier.isPublic(method.getModifiers())) face.add(method);
    // Which one comes first is the machine's choice, and the draws must not hang on it.
    face.sort(Comparator.comparing(Method::getName));
    river = face.get(face.indexOf(BearsTwo.class.getMethod("river")));
  }

  private Object argument(Random random, Class<?> type) {
    if (type == boolean.class) return random.nextBoolean();
    boolean small = random.nextInt(4) > 0;
    long v = small ? random.nextInt(6) : random.nextInt(5) > 0 ? EDGES[random.nextInt(EDGES.length)] : random.nextInt();
    if (type == int.class) return (int) v;
    return random.nextInt(6) == 0 ? LONGS[random.nextInt(LONGS.length)] : random.nextInt(6) == 0 ? random.nextLong() : v;
  }

  /** The answers; a call that throws is told and ends it. */
  private List<String> play(BearsTwo x, int seed) throws IllegalAccessException {
    Random random = new Random(seed);
    Rivers rivers = new Rivers(random);
    List<String> answers = new ArrayList<>();
    for (int k = 0; k < CALLS; k++) {
      Method method = k == 0 ? river : face.get(random.nextInt(face.size()));
      Object[] values = new Object[method.getParameterCount()];
      for (int i = 0; i < values.length; i++) values[i] = argument(random, method.getParameterTypes()[i]);
      String text = null;
      if (method == river && random.nextInt(8) > 0) {
        text = random.nextInt(3) > 0 ? rivers.sound(random.nextInt(25), random.nextInt(9)) : random.nextBoolean() ? rivers.full() : rivers.faulty(4, 3);
        x.end(0);
        Told.feed(x, text);
      }
      String call = method.getName() + Arrays.toString(values) + (text == null ? "" : " of " + text);
      made++;
      try {
        answers.add(call + " = " + method.invoke(x, values));
      } catch (InvocationTargetException e) {
        wrong++;
        System.out.println("seed " + seed + ": " + call + " threw " + e.getCause());
        return answers;
      }
    }
    return answers;
  }

  private void same(int seed, List<String> got, List<String> want) {
    for (int i = 0; i < want.size() && i < got.size(); i++) {
      if (!got.get(i).equals(want.get(i))) {
        wrong++;
        System.out.println("seed " + seed + ", call " + i + ": " + got.get(i) + " and " + want.get(i));
        return;
      }
    }
  }

  private void round(int seed) throws IllegalAccessException {
    List<String> first = play(new BearsTwo(), seed);
    same(seed, play(new BearsTwo(), seed), first);
  }

  public static void main(String[] args) throws Exception {
    AnyCallTest test = new AnyCallTest();
    if (test.face.size() != 51) throw new IllegalStateException("the face has 51 methods");
    int rounds = args.length > 0 ? Integer.parseInt(args[0]) : 600;
    for (int seed = 0; seed < rounds; seed++) test.round(seed);
    System.out.println(test.wrong == 0 ? test.made + " calls threw nothing" : test.wrong + " of " + test.made + " calls are not as due");
    if (test.wrong != 0) System.exit(1);
  }
}
