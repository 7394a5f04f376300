import java.util.HashSet;
import java.util.List;
import java.util.Set;

/** Many sources, made by a fixed sequence of numbers, against what the Reference tells of them. */
public final class SweepTest {
  private static final int SOURCES = 500;
  private static final String TOKENS = "0123456789abcd+-*()=;{}?:!";
  private static long seed = 20261119;

  private SweepTest() {}

  public static void main(String[] args) {
    int wellFormed = 0;
    for (int k = 0; k < SOURCES; k++) {
      VariantParser x = new VariantParser();
      Reference want = new Reference();
      fill(x, want);
      wellFormed += compare(x, want);
      change(x, want);
      wellFormed += compare(x, want);
    }
    if (wellFormed < SOURCES) {
      Check.fail("only " + wellFormed + " variants without an error were compared");
    }
    Check.end();
  }

  private static int below(int bound) {
    seed = seed * 6364136223846793005L + 1442695040888963407L;
    return (int) ((seed >>> 33) % bound);
  }

  // ---- making a source

  private static void fill(VariantParser x, Reference want) {
    StringBuilder text = new StringBuilder();
    int statements = 1 + below(6);
    for (int k = 0; k < statements; k++) {
      statement(text, 3);
    }
    int share = 3 + below(12);
    for (int k = 0; k < text.length(); k++) {
      if (below(share) == 0) {
        directive(x, want);
      }
      write(x, want, text.charAt(k));
      if (below(60) == 0) {
        write(x, want, TOKENS.charAt(below(TOKENS.length())));
      }
    }
    for (int k = below(8); k > 0; k--) {
      directive(x, want);
    }
    while (x.unfinished() > 0 && x.size() < 80 && below(30) != 0) {
      x.done();
      want.items.add(17);
    }
  }

  private static void statement(StringBuilder text, int depth) {
    int kind = depth == 0 ? below(2) : below(5);
    if (kind == 0) {
      text.append('!');
      expression(text, 3);
      text.append(';');
    } else if (kind == 1) {
      text.append((char) ('a' + below(4))).append('=');
      expression(text, 3);
      text.append(';');
    } else if (kind == 2) {
      text.append('{');
      for (int k = below(3); k > 0; k--) {
        statement(text, depth - 1);
      }
      text.append('}');
    } else {
      text.append('?');
      expression(text, 2);
      statement(text, depth - 1);
      if (below(2) == 0) {
        text.append(':');
        statement(text, depth - 1);
      }
    }
  }

  private static void expression(StringBuilder text, int depth) {
    int kind = depth == 0 ? below(2) : below(8);
    if (kind == 0 || kind == 5) {
      text.append((char) ('0' + below(10)));
    } else if (kind == 1 || kind == 6) {
      text.append((char) ('a' + below(4)));
    } else if (kind == 2) {
      text.append('-');
      expression(text, 0);
    } else if (kind == 3) {
      text.append('(');
      expression(text, depth - 1);
      text.append(')');
    } else {
      expression(text, depth - 1);
      text.append("+-*".charAt(below(3)));
      expression(text, depth - 1);
    }
  }

  private static void write(VariantParser x, Reference want, char token) {
    if (x.size() < 80) {
      x.write(token);
      want.items.add((int) token);
    }
  }

  private static void directive(VariantParser x, Reference want) {
    int kind = below(5);
    int feature = below(4);
    boolean isOn = below(2) == 0;
    int number = 2 * feature + (isOn ? 1 : 0);
    try {
      if (kind == 0) {
        x.set(feature, isOn);
        want.items.add(8 + number);
      } else if (kind == 1) {
        x.otherwise();
        want.items.add(16);
      } else if (kind == 2) {
        x.done();
        want.items.add(17);
      } else {
        x.when(feature, isOn);
        want.items.add(number);
      }
    } catch (IllegalStateException e) {
      return;
    }
  }

  private static void change(VariantParser x, Reference want) {
    for (int k = below(3); k > 0 && x.size() > 0; k--) {
      x.drop();
      want.items.remove(want.items.size() - 1);
    }
    for (int k = below(3); k > 0 && x.size() > 0; k--) {
      int item = below(x.size());
      char token = TOKENS.charAt(below(TOKENS.length()));
      if (want.items.get(item) > 17) {
        Check.equal("replace()", x.replace(item, token), want.items.get(item));
        want.items.set(item, (int) token);
      }
    }
    if (below(2) == 0) {
      write(x, want, TOKENS.charAt(below(TOKENS.length())));
    }
  }

  // ---- comparing

  /** Returns how many variants without an error it has compared. */
  private static int compare(VariantParser x, Reference want) {
    String source = want.items.toString();
    int size = want.items.size();
    Check.equal(source + ": size()", x.size(), size);
    Check.equal(source + ": unfinished()", x.unfinished(), want.unfinished());
    for (int i = 0; i < size; i++) {
      String at = source + ": item " + i;
      Check.equal(at, x.item(i), want.items.get(i));
      int presence = want.presence(i);
      Check.equal(at + ", presence", x.presence(i), presence);
      Check.equal(at + ", features", x.features(presence), want.features(presence));
      for (int f = 0; f < 4; f++) {
        Check.equal(at + ", on " + f, x.on(f, i), want.on(f, i));
      }
    }
    Check.equal(source + ": dead()", x.dead(), want.dead());
    Check.equal(source + ": variants()", x.variants(), want.variants());
    for (int c = 0; c < 16; c++) {
      List<Integer> places = want.places(c);
      Check.equal(source + ": length " + c, x.length(c), places.size());
      for (int k = 0; k < places.size(); k++) {
        Check.equal(source + ": place " + c + " " + k, x.place(c, k), places.get(k));
      }
    }
    return want.unfinished() == 0 ? compareReading(x, want, source) : 0;
  }

  private static int compareReading(VariantParser x, Reference want, String source) {
    int wrong = 0;
    int first = -1;
    int read = 0;
    int wellFormed = 0;
    Set<String> behaviours = new HashSet<>();
    for (int c = 0; c < 16; c++) {
      int error = want.error(c);
      List<String> stacks = want.stacks(c);
      read += stacks.size();
      Check.equal(source + ": error " + c, x.error(c), error);
      for (int k = 0; k < want.places(c).size(); k++) {
        Check.equal(source + ": stack " + c + " " + k,
            x.stack(c, k), k < stacks.size() ? stacks.get(k).length() : -1);
      }
      if (error < 0) {
        wellFormed++;
        behaviours.add(compareRun(x, want.run(c), c, source));
      } else {
        wrong |= 1 << c;
        first = first < 0 ? error : Math.min(first, error);
      }
    }
    Check.equal(source + ": wrong()", x.wrong(), wrong);
    Check.equal(source + ": firstError()", x.firstError(), first);
    Check.equal(source + ": behaviours()", x.behaviours(), behaviours.size());
    compareGroups(x, want, source, read);
    return wellFormed;
  }

  private static String compareRun(VariantParser x, int[] run, int configuration, String source) {
    StringBuilder written = new StringBuilder();
    String at = source + ": run " + configuration;
    Check.equal(at + ", outputs", x.outputs(configuration), run.length - 4);
    for (int k = 0; k < run.length; k++) {
      if (k < 4) {
        Check.equal(at + ", variable " + k, x.variable(configuration, k), run[k]);
      } else {
        Check.equal(at + ", output " + (k - 4), x.output(configuration, k - 4), run[k]);
        written.append(run[k]).append(' ');
      }
    }
    return written.toString();
  }

  private static void compareGroups(VariantParser x, Reference want, String source, int read) {
    int work = 0;
    for (int i = 0; i < want.items.size(); i++) {
      int groups = want.groups(i);
      Check.equal(source + ": groups " + i, x.groups(i), groups);
      work += groups;
    }
    Check.equal(source + ": work()", x.work(), work);
    Check.equalDouble(source + ": gain()", x.gain(), work == 0 ? 0.0 : (double) read / work);
  }
}
