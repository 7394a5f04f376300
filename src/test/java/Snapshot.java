/** All that a parser tells, as a text; of the configurations, to spare calls, 0, 5 and 15 alone. */
final class Snapshot {
  private static final int[] CONFIGURATIONS = {0, 5, 15};

  interface Answer {
    Object give();
  }

  private final StringBuilder text = new StringBuilder();

  private Snapshot() {}

  static String of(VariantParser x) {
    Snapshot snapshot = new Snapshot();
    snapshot.addSource(x);
    for (int c : CONFIGURATIONS) {
      snapshot.addVariant(x, c);
    }
    return snapshot.text.toString();
  }

  private void addSource(VariantParser x) {
    add("size", x::size);
    add("unfinished", x::unfinished);
    for (int k = 0; k < x.size(); k++) {
      int i = k;
      add("item " + i, () -> x.item(i));
      add("presence " + i, () -> x.presence(i));
      for (int f = 0; f < 4; f++) {
        int feature = f;
        add("on " + f + " " + i, () -> x.on(feature, i));
      }
      add("groups " + i, () -> x.groups(i));
    }
    add("dead", x::dead);
    add("variants", x::variants);
    add("wrong", x::wrong);
    add("firstError", x::firstError);
    add("work", x::work);
    add("gain", x::gain);
    add("behaviours", x::behaviours);
    add("digest", x::digest);
  }

  private void addVariant(VariantParser x, int c) {
    int length = x.length(c);
    add("length " + c, () -> length);
    for (int k = 0; k < length; k++) {
      int index = k;
      add("place " + c + " " + k, () -> x.place(c, index));
      add("stack " + c + " " + k, () -> x.stack(c, index));
    }
    add("error " + c, () -> x.error(c));
    add("outputs " + c, () -> x.outputs(c));
    add("output " + c + " 0", () -> x.output(c, 0));
    for (int v = 0; v < 4; v++) {
      int variable = v;
      add("variable " + c + " " + v, () -> x.variable(c, variable));
    }
  }

  private void add(String name, Answer answer) {
    text.append(name).append(": ");
    try {
      text.append(answer.give());
    } catch (RuntimeException e) {
      text.append(e.getClass().getName());
    }
    text.append('\n');
  }
}
