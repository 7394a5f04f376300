import java.util.NoSuchElementException;

/**
 * Full lives of 512 calls with arguments good and bad: each answer and each exception as it is due by
 * the Reference, and never an exception of the machine itself.
 */
public final class StormTest {
  private static final int LIVES = 300;
  private static final int CALLS = 512;
  private static final String INDEX = IndexOutOfBoundsException.class.getName();
  private static final String STATE = IllegalStateException.class.getName();
  private static final String MISSING = NoSuchElementException.class.getName();
  private static final String ARGUMENT = IllegalArgumentException.class.getName();
  private static final String[] STATEMENTS = {"!1;", "a=b+1;", "!a*a;", "?1!2;", "?a-1!3;", "b=-a;",
      "c=(a);", "a=9*9;", "a=a*a;", "!a-b;", "{!d;}", "d=--2;"};
  private static final int[] EDGES = {-1, 0, 1, 3, 4, 15, 16, 17, 79, 80, 81, 65535, 65536,
      Integer.MIN_VALUE, Integer.MAX_VALUE};
  private static long seed = 512;

  private StormTest() {}

  public static void main(String[] args) {
    int answers = 0;
    for (int life = 0; life < LIVES; life++) {
      VariantParser x = new VariantParser();
      Reference want = new Reference();
      for (int k = 0; k < CALLS; k++) {
        Call call = life % 2 == 0 ? wildCall(want) : tidyCall(want);
        answers += compare(x, want, call) ? 1 : 0;
      }
    }
    if (answers < LIVES * CALLS / 3) {
      Check.fail("only " + answers + " calls answered");
    }
    Check.end();
  }

  private record Call(int kind, int item, int configuration, int feature, int token, long text,
      boolean isOn) {
    /** The number of a value: a low one, so that there often is one, or out of all bounds. */
    int value() {
      return item < 0 || item >= 80 ? item : item % 4;
    }
  }

  private static int below(int bound) {
    seed = seed * 6364136223846793005L + 1442695040888963407L;
    return (int) ((seed >>> 33) % bound);
  }

  private static int number(int bound) {
    return below(10) == 0 ? EDGES[below(EDGES.length)] : below(bound);
  }

  private static int token() {
    return below(12) == 0 ? number(70000)
        : Reference.TOKENS.charAt(below(Reference.TOKENS.length()));
  }

  private static Call wildCall(Reference want) {
    long text = (long) token() << 8 * below(8) ^ token();
    return newCall(below(29), want, text, token());
  }

  /** Of a life that writes whole statements, and takes back what is wrong: many variants run. */
  private static Call tidyCall(Reference want) {
    boolean isWrong = want.unfinished() == 0 && want.wrong() != 0;
    int kind = 7 + below(22);
    if (isWrong && below(2) == 0 || want.size() > 75) {
      kind = 5;
    } else if (want.unfinished() > 0 && below(3) == 0) {
      kind = 2 + below(2);
    } else if (below(4) == 0) {
      kind = below(3) == 0 ? below(7) : 0;
    }
    long text = Make.number(STATEMENTS[below(STATEMENTS.length)]);
    return newCall(kind, want, text, '0' + below(10));
  }

  private static Call newCall(int kind, Reference want, long text, int token) {
    return new Call(kind, number(Math.max(1, want.size())), number(16), number(4), token, text,
        below(2) == 0);
  }

  /** Returns whether the call answered. */
  private static boolean compare(VariantParser x, Reference want, Call call) {
    String due = due(want, call);
    String got;
    try {
      got = String.valueOf(answer(x, call));
    } catch (RuntimeException e) {
      got = e.getClass().getName();
    }
    if (!got.equals(due)) {
      Check.fail(want + ": " + call + " told " + got + ", due is " + due);
    }
    return !got.contains("Exception");
  }

  private static Object answer(VariantParser x, Call call) {
    return switch (call.kind) {
      case 0 -> x.write(call.text);
      case 1 -> x.when(call.feature, call.isOn);
      case 2 -> x.otherwise();
      case 3 -> x.done();
      case 4 -> x.set(call.feature, call.isOn);
      case 5 -> x.drop();
      case 6 -> x.replace(call.item, call.token);
      case 7 -> x.size();
      case 8 -> x.item(call.item);
      case 9 -> x.unfinished();
      case 10 -> x.presence(call.item);
      case 11 -> x.on(call.feature, call.item);
      case 12 -> x.features(call.token);
      case 13 -> x.dead();
      case 14 -> x.length(call.configuration);
      case 15 -> x.place(call.configuration, call.item);
      case 16 -> x.variants();
      case 17 -> x.error(call.configuration);
      case 18 -> x.wrong();
      case 19 -> x.firstError();
      case 20 -> x.groups(call.item);
      case 21 -> x.work();
      case 22 -> String.valueOf(x.gain());
      case 23 -> x.stack(call.configuration, call.item);
      case 24 -> x.outputs(call.configuration);
      case 25 -> x.output(call.configuration, call.value());
      case 26 -> x.variable(call.configuration, call.feature);
      case 27 -> x.behaviours();
      default -> x.digest();
    };
  }

  // ---- what is due: the exception that the promise names first, or the answer

  private static String due(Reference want, Call call) {
    int kind = call.kind;
    return kind < 7 ? dueOfChange(want, call) : kind < 17 ? dueOfPresence(want, call)
        : kind < 24 ? dueOfReading(want, call) : dueOfRunning(want, call);
  }

  private static boolean isFeature(Call call) {
    return call.feature >= 0 && call.feature < 4;
  }

  private static boolean isItem(Reference want, Call call) {
    return call.item >= 0 && call.item < want.size();
  }

  private static boolean isConfiguration(Call call) {
    return call.configuration >= 0 && call.configuration < 16;
  }

  private static boolean isIndex(Reference want, Call call) {
    return isConfiguration(call) && call.item >= 0
        && call.item < want.places(call.configuration).size();
  }

  private static boolean isToken(int character) {
    return character > 0 && Reference.TOKENS.indexOf(character) >= 0;
  }

  private static String dueOfChange(Reference want, Call call) {
    int number = 2 * call.feature + (call.isOn ? 1 : 0);
    switch (call.kind) {
      case 0:
        return dueOfWrite(want, call.text);
      case 1:
        return isFeature(call) ? dueOfAppend(want, number) : INDEX;
      case 2:
        return dueOfAppend(want, 16);
      case 3:
        return dueOfAppend(want, 17);
      case 4:
        return isFeature(call) ? dueOfAppend(want, 8 + number) : INDEX;
      case 5:
        if (want.size() == 0) {
          return STATE;
        }
        want.drop();
        return "" + want.size();
      default:
        return dueOfReplace(want, call);
    }
  }

  private static String dueOfWrite(Reference want, long text) {
    int count = 0;
    for (int shift = 56; shift >= 0; shift -= 8) {
      int character = (int) (text >> shift & 255);
      if (character != 0 && !isToken(character)) {
        return ARGUMENT;
      }
      count += character != 0 ? 1 : 0;
    }
    if (want.size() + count > 80) {
      return STATE;
    }
    for (int shift = 56; shift >= 0; shift -= 8) {
      if ((text >> shift & 255) != 0) {
        want.append((int) (text >> shift & 255));
      }
    }
    return "" + want.size();
  }

  private static String dueOfAppend(Reference want, int item) {
    if (!want.canAppend(item)) {
      return STATE;
    }
    want.append(item);
    return "" + want.size();
  }

  private static String dueOfReplace(Reference want, Call call) {
    if (!isItem(want, call)) {
      return INDEX;
    }
    if (!want.isToken(call.item)) {
      return STATE;
    }
    if (!isToken(call.token)) {
      return ARGUMENT;
    }
    int before = want.item(call.item);
    want.replace(call.item, call.token);
    return "" + before;
  }

  private static String dueOfPresence(Reference want, Call call) {
    switch (call.kind) {
      case 7:
        return "" + want.size();
      case 8:
        return isItem(want, call) ? "" + want.item(call.item) : INDEX;
      case 9:
        return "" + want.unfinished();
      case 10:
        return isItem(want, call) ? "" + want.presence(call.item) : INDEX;
      case 11:
        return isFeature(call) && isItem(want, call) ? "" + want.on(call.feature, call.item) : INDEX;
      case 12:
        return call.token >= 0 && call.token <= 65535 ? "" + want.features(call.token) : ARGUMENT;
      case 13:
        return "" + want.dead();
      case 14:
        return isConfiguration(call) ? "" + want.places(call.configuration).size() : INDEX;
      case 15:
        return isIndex(want, call) ? "" + want.places(call.configuration).get(call.item) : INDEX;
      default:
        return "" + want.variants();
    }
  }

  private static String dueOfReading(Reference want, Call call) {
    int kind = call.kind;
    boolean isIndexBad = kind == 17 && !isConfiguration(call) || kind == 20 && !isItem(want, call)
        || kind == 23 && !isIndex(want, call);
    if (isIndexBad) {
      return INDEX;
    }
    if (want.unfinished() > 0) {
      return STATE;
    }
    return switch (kind) {
      case 17 -> "" + want.error(call.configuration);
      case 18 -> "" + want.wrong();
      case 19 -> "" + want.firstError();
      case 20 -> "" + want.groups(call.item);
      case 21 -> "" + want.work();
      case 22 -> "" + want.gain();
      default -> "" + want.stack(call.configuration, call.item);
    };
  }

  private static String dueOfRunning(Reference want, Call call) {
    if (call.kind == 28) {
      return "" + want.digest();
    }
    if (call.kind < 27 && !isConfiguration(call)) {
      return INDEX;
    }
    if (want.unfinished() > 0) {
      return STATE;
    }
    if (call.kind == 27) {
      return "" + want.behaviours();
    }
    if (want.error(call.configuration) >= 0) {
      return MISSING;
    }
    int[] outputs = want.outputs(call.configuration);
    if (call.kind == 24) {
      return "" + outputs.length;
    }
    if (call.kind == 25) {
      int index = call.value();
      return index >= 0 && index < outputs.length ? "" + outputs[index] : ARGUMENT;
    }
    return isFeature(call) ? "" + want.run(call.configuration)[call.feature] : ARGUMENT;
  }
}
