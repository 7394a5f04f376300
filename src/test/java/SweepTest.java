import java.util.List;

/** Many sources, made by a fixed sequence of numbers, against what the Reference tells of them. */
public final class SweepTest {
  private static final int SOURCES = 500;
  /** So many items are looked at in one parser, which is used for 512 calls at most. */
  private static final int ITEMS_AT_ONCE = 40;
  private static long seed = 20261119;

  private SweepTest() {}

  public static void main(String[] args) {
    int wellFormed = 0;
    for (int k = 0; k < SOURCES; k++) {
      History history = new History();
      fill(history);
      wellFormed += compare(history);
      history.look();
      change(history);
      wellFormed += compare(history);
    }
    if (wellFormed < SOURCES) {
      Check.fail("only " + wellFormed + " variants without an error were compared");
    }
    Check.end();
  }

  private static int below(int bound) {
    seed = seed * 6364136223846793005L + 1442695040888963407L;
    return (int) ((seed >>> 33) % bound);
  }

  private static char token() {
    return Reference.TOKENS.charAt(below(Reference.TOKENS.length()));
  }

  // ---- making a source

  private static void fill(History history) {
    StringBuilder text = new StringBuilder();
    int statements = 1 + below(6);
    for (int k = 0; k < statements; k++) {
      statement(text, 3);
    }
    int share = 3 + below(12);
    for (int k = 0; k < text.length(); k++) {
      if (below(share) == 0) {
        directive(history);
      }
      history.append(text.charAt(k));
      if (below(60) == 0) {
        history.append(token());
      }
    }
    for (int k = below(8); k > 0; k--) {
      directive(history);
    }
    while (history.want.canAppend(17) && below(30) != 0) {
      history.append(17);
    }
  }

  private static void statement(StringBuilder text, int depth) {
    int kind = depth == 0 ? below(2) : below(5);
    if (kind == 0) {
      text.append('!');
      expression(text, 3);
      text.append(';');
    } else if (kind == 1) {
      text.append((char) ('a' + below(4))).append('=');
      expression(text, 3);
      text.append(';');
    } else if (kind == 2) {
      text.append('{');
      for (int k = below(3); k > 0; k--) {
        statement(text, depth - 1);
      }
      text.append('}');
    } else {
      text.append('?');
      expression(text, 2);
      statement(text, depth - 1);
      if (below(2) == 0) {
        text.append(':');
        statement(text, depth - 1);
      }
    }
  }

  private static void expression(StringBuilder text, int depth) {
    int kind = depth == 0 ? below(2) : below(8);
    if (kind == 0 || kind == 5) {
      text.append((char) ('0' + below(10)));
    } else if (kind == 1 || kind == 6) {
      text.append((char) ('a' + below(4)));
    } else if (kind == 2) {
      text.append('-');
      expression(text, 0);
    } else if (kind == 3) {
      text.append('(');
      expression(text, depth - 1);
      text.append(')');
    } else {
      expression(text, depth - 1);
      text.append("+-*".charAt(below(3)));
      expression(text, depth - 1);
    }
  }

  private static void directive(History history) {
    int kind = below(5);
    int number = below(8);
    if (kind == 0) {
      history.append(8 + number);
    } else if (kind == 1) {
      history.append(16);
    } else if (kind == 2) {
      history.append(17);
    } else {
      history.append(number);
    }
  }

  private static void change(History history) {
    for (int k = below(3); k > 0 && history.want.size() > 0; k--) {
      history.drop();
    }
    for (int k = below(3); k > 0 && history.want.size() > 0; k--) {
      int item = below(history.want.size());
      if (history.want.isToken(item)) {
        history.replace(item, token());
      }
    }
    if (below(2) == 0) {
      history.append(token());
    }
  }

  // ---- comparing

  /** Returns how many variants without an error it has compared. */
  private static int compare(History history) {
    Reference want = history.want;
    String source = want + ": ";
    compareWhole(history.parser(), want, source);
    for (int from = 0; from < want.size(); from += ITEMS_AT_ONCE) {
      compareItems(history.parser(), want, from, source);
    }
    int wellFormed = 0;
    for (int c = 0; c < 16; c++) {
      VariantParser x = history.parser();
      compareVariant(x, want, c, source);
      if (want.unfinished() == 0) {
        compareReading(x, want, c, source);
        wellFormed += want.error(c) < 0 ? 1 : 0;
      }
    }
    return wellFormed;
  }

  private static void compareWhole(VariantParser x, Reference want, String source) {
    Check.equal(source + "size()", x.size(), want.size());
    Check.equal(source + "unfinished()", x.unfinished(), want.unfinished());
    Check.equal(source + "dead()", x.dead(), want.dead());
    Check.equal(source + "variants()", x.variants(), want.variants());
    Check.equal(source + "digest()", x.digest(), want.digest());
    if (want.unfinished() == 0) {
      Check.equal(source + "wrong()", x.wrong(), want.wrong());
      Check.equal(source + "firstError()", x.firstError(), want.firstError());
      Check.equal(source + "behaviours()", x.behaviours(), want.behaviours());
      Check.equal(source + "work()", x.work(), want.work());
      Check.equalDouble(source + "gain()", x.gain(), want.gain());
    }
  }

  private static void compareItems(VariantParser x, Reference want, int from, String source) {
    for (int i = from; i < Math.min(want.size(), from + ITEMS_AT_ONCE); i++) {
      String at = source + "item " + i;
      int presence = want.presence(i);
      Check.equal(at, x.item(i), want.item(i));
      Check.equal(at + ", presence", x.presence(i), presence);
      Check.equal(at + ", features", x.features(presence), want.features(presence));
      for (int f = 0; f < 4; f++) {
        Check.equal(at + ", on " + f, x.on(f, i), want.on(f, i));
      }
      if (want.unfinished() == 0) {
        Check.equal(at + ", groups", x.groups(i), want.groups(i));
      }
    }
  }

  private static void compareVariant(VariantParser x, Reference want, int c, String source) {
    List<Integer> places = want.places(c);
    Check.equal(source + "length " + c, x.length(c), places.size());
    for (int k = 0; k < places.size(); k++) {
      Check.equal(source + "place " + c + " " + k, x.place(c, k), places.get(k));
    }
  }

  private static void compareReading(VariantParser x, Reference want, int c, String source) {
    Check.equal(source + "error " + c, x.error(c), want.error(c));
    for (int k = 0; k < want.places(c).size(); k++) {
      Check.equal(source + "stack " + c + " " + k, x.stack(c, k), want.stack(c, k));
    }
    if (want.error(c) < 0) {
      int[] run = want.run(c);
      Check.equal(source + "outputs " + c, x.outputs(c), run.length - 4);
      for (int k = 0; k < run.length; k++) {
        if (k < 4) {
          Check.equal(source + "variable " + c + " " + k, x.variable(c, k), run[k]);
        } else {
          Check.equal(source + "output " + c + " " + (k - 4), x.output(c, k - 4), run[k]);
        }
      }
    }
  }
}
