import java.util.NoSuchElementException;

/**
 * Full lives of 512 calls with arguments good and bad, against what must be thrown, as told by the
 * calls that throw nothing: never anything else, and never by the machine itself.
 */
public final class StormTest {
  private static final int LIVES = 400;
  private static final int CALLS = 512;
  private static final String TOKENS = "0123456789abcd+-*()=;{}?:!";
  private static final int[] EDGES = {-1, 0, 1, 3, 4, 15, 16, 17, 79, 80, 81, 65535, 65536,
      Integer.MIN_VALUE, Integer.MAX_VALUE};
  private static long seed = 512;

  private StormTest() {}

  public static void main(String[] args) {
    for (int life = 0; life < LIVES; life++) {
      VariantParser x = new VariantParser();
      for (int k = 0; k < CALLS; k++) {
        call(x, below(29));
      }
    }
    Check.end();
  }

  private static int below(int bound) {
    seed = seed * 6364136223846793005L + 1442695040888963407L;
    return (int) ((seed >>> 33) % bound);
  }

  private static int number(int bound) {
    return below(6) == 0 ? EDGES[below(EDGES.length)] : below(bound);
  }

  private static int token() {
    return below(12) == 0 ? number(70000) : TOKENS.charAt(below(TOKENS.length()));
  }

  private static void call(VariantParser x, int kind) {
    int i = number(Math.max(1, x.size()));
    int c = number(16);
    int f = number(4);
    int t = token();
    long text = (long) token() << 8 * below(8) ^ token();
    boolean isOn = below(2) == 0;
    Class<?> want = due(x, kind, i, c, f, t, text);
    Class<?> got = null;
    try {
      answer(x, kind, i, c, f, t, text, isOn);
    } catch (RuntimeException e) {
      got = e.getClass();
    }
    if (got != want) {
      Check.fail("call " + kind + " with " + i + ", " + c + ", " + f + ", " + t + ", " + text
          + " threw " + got + ", due is " + want);
    }
  }

  private static void answer(VariantParser x, int kind, int i, int c, int f, int t, long text,
      boolean isOn) {
    switch (kind) {
      case 0 -> x.write(text);
      case 1 -> x.when(f, isOn);
      case 2 -> x.otherwise();
      case 3 -> x.done();
      case 4 -> x.set(f, isOn);
      case 5 -> x.drop();
      case 6 -> x.replace(i, t);
      case 7 -> x.size();
      case 8 -> x.item(i);
      case 9 -> x.unfinished();
      case 10 -> x.presence(i);
      case 11 -> x.on(f, i);
      case 12 -> x.features(t);
      case 13 -> x.dead();
      case 14 -> x.length(c);
      case 15 -> x.place(c, i);
      case 16 -> x.variants();
      case 17 -> x.error(c);
      case 18 -> x.wrong();
      case 19 -> x.firstError();
      case 20 -> x.groups(i);
      case 21 -> x.work();
      case 22 -> x.gain();
      case 23 -> x.stack(c, i);
      case 24 -> x.outputs(c);
      case 25 -> x.output(c, i);
      case 26 -> x.variable(c, f);
      case 27 -> x.behaviours();
      default -> x.digest();
    }
  }

  /** What the call must throw, the exception that its promise names first; null for nothing. */
  private static Class<?> due(VariantParser x, int kind, int i, int c, int f, int t, long text) {
    boolean isItem = i >= 0 && i < x.size();
    boolean isConfiguration = c >= 0 && c < 16;
    boolean isFeature = f >= 0 && f < 4;
    switch (kind) {
      case 0:
        return dueOfWrite(x, text);
      case 1:
        return !isFeature ? IndexOutOfBoundsException.class
            : state(x.size() == 80 || x.unfinished() == 5);
      case 2:
        return state(x.size() == 80 || x.unfinished() == 0 || hasOtherwise(x));
      case 3:
        return state(x.size() == 80 || x.unfinished() == 0);
      case 4:
        return !isFeature ? IndexOutOfBoundsException.class : state(x.size() == 80);
      case 5:
        return state(x.size() == 0);
      case 6:
        return !isItem ? IndexOutOfBoundsException.class
            : x.item(i) <= 17 ? IllegalStateException.class
            : TOKENS.indexOf(t) < 0 ? IllegalArgumentException.class : null;
      case 8:
      case 10:
        return isItem ? null : IndexOutOfBoundsException.class;
      case 11:
        return isItem && isFeature ? null : IndexOutOfBoundsException.class;
      case 12:
        return t >= 0 && t < 65536 ? null : IllegalArgumentException.class;
      case 14:
        return isConfiguration ? null : IndexOutOfBoundsException.class;
      case 15:
        return isConfiguration && i >= 0 && i < x.length(c) ? null
            : IndexOutOfBoundsException.class;
      case 17:
        return !isConfiguration ? IndexOutOfBoundsException.class : state(x.unfinished() > 0);
      case 18:
      case 19:
      case 21:
      case 22:
      case 27:
        return state(x.unfinished() > 0);
      case 20:
        return !isItem ? IndexOutOfBoundsException.class : state(x.unfinished() > 0);
      case 23:
        return !isConfiguration || i < 0 || i >= x.length(c) ? IndexOutOfBoundsException.class
            : state(x.unfinished() > 0);
      case 24:
        return dueOfRun(x, c);
      case 25:
        return dueOfRun(x, c) != null ? dueOfRun(x, c)
            : i < 0 || i >= x.outputs(c) ? IllegalArgumentException.class : null;
      case 26:
        return dueOfRun(x, c) != null ? dueOfRun(x, c)
            : isFeature ? null : IllegalArgumentException.class;
      default:
        return null;
    }
  }

  private static Class<?> state(boolean isBad) {
    return isBad ? IllegalStateException.class : null;
  }

  private static Class<?> dueOfWrite(VariantParser x, long text) {
    int count = 0;
    for (int shift = 0; shift < 64; shift += 8) {
      int character = (int) (text >> shift & 255);
      if (character != 0 && TOKENS.indexOf(character) < 0) {
        return IllegalArgumentException.class;
      }
      count += character != 0 ? 1 : 0;
    }
    return state(x.size() + count > 80);
  }

  private static Class<?> dueOfRun(VariantParser x, int c) {
    if (c < 0 || c > 15) {
      return IndexOutOfBoundsException.class;
    }
    if (x.unfinished() > 0) {
      return IllegalStateException.class;
    }
    return x.error(c) < 0 ? null : NoSuchElementException.class;
  }

  private static boolean hasOtherwise(VariantParser x) {
    boolean[] has = new boolean[6];
    int depth = 0;
    for (int i = 0; i < x.size(); i++) {
      if (x.item(i) < 8) {
        depth++;
        has[depth] = false;
      } else if (x.item(i) == 16) {
        has[depth] = true;
      } else if (x.item(i) == 17) {
        depth--;
      }
    }
    return has[depth];
  }
}
