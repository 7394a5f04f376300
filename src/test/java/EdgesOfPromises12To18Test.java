/** Promises 12 to 18, presence: the sentences with an edge. */
public final class EdgesOfPromises12To18Test {
  private static final Class<?> INDEX = IndexOutOfBoundsException.class;
  private static final Class<?> ARGUMENT = IllegalArgumentException.class;
  private static final int ALL = 65535;
  private static final int[] ON = {43690, 52428, 61680, 65280};
  private static final int MIN = Integer.MIN_VALUE;
  private static final int MAX = Integer.MAX_VALUE;

  private EdgesOfPromises12To18Test() {}

  public static void main(String[] args) {
    Check.sentence("12 to 18: also if a WHEN is not finished",
        EdgesOfPromises12To18Test::whenNotFinished);
    Check.sentence("12: the set of the configurations in which it is present",
        EdgesOfPromises12To18Test::presence);
    Check.sentence("12: if there is no such item", EdgesOfPromises12To18Test::presenceOfNone);
    Check.sentence("13: in which the feature is on ahead of the item",
        EdgesOfPromises12To18Test::onAhead);
    Check.sentence("13: if feature is not 0 to 3", EdgesOfPromises12To18Test::onOfNoFeature);
    Check.sentence("13: or there is no such item", EdgesOfPromises12To18Test::onOfNoItem);
    Check.sentence("14: two configurations that differ in f alone, one of them in the set, the other"
        + " one not", EdgesOfPromises12To18Test::features);
    Check.sentence("14: if configurations is not 0 to 65535",
        EdgesOfPromises12To18Test::featuresOfNoSet);
    Check.sentence("15: how many tokens are present in no configuration",
        EdgesOfPromises12To18Test::dead);
    Check.sentence("16: the number of tokens of its variant", EdgesOfPromises12To18Test::length);
    Check.sentence("16: if configuration is not 0 to 15",
        EdgesOfPromises12To18Test::lengthOfNoConfiguration);
    Check.sentence("17: Returns the item of this token", EdgesOfPromises12To18Test::place);
    Check.sentence("17: if configuration is not 0 to 15",
        EdgesOfPromises12To18Test::placeOfNoConfiguration);
    Check.sentence("17: or there is no such index", EdgesOfPromises12To18Test::placeOfNoIndex);
    Check.sentence("18: how many different sequences of characters the variants are",
        EdgesOfPromises12To18Test::variants);
    Check.end();
  }

  private static void whenNotFinished() {
    VariantParser x = Make.parser("1 W0 23 V0 4 O 5 W3");
    Check.equal("presence(8)", x.presence(8), ON[0]);
    Check.equal("presence(5)", x.presence(5), 0);
    Check.equal("on(3, 8)", x.on(3, 8), ON[3]);
    Check.equal("features(1)", x.features(1), 15);
    Check.equal("dead()", x.dead(), 1);
    Check.equal("length(0)", x.length(0), 1);
    Check.equal("length(1)", x.length(1), 4);
    Check.equal("place(1, 3)", x.place(1, 3), 7);
    Check.equal("variants()", x.variants(), 2);
    VariantParser deep = Make.parser("W0 W1 W2 W3 W0 1");
    Check.equal("presence(5) in 5", deep.presence(5), 32768);
    Check.equal("length(15) in 5", deep.length(15), 1);
    Check.equal("length(14) in 5", deep.length(14), 0);
    Check.equal("variants() in 5", deep.variants(), 2);
  }

  private static void presence() {
    VariantParser x = Make.parser("1 W0 2 V0 3 O 4 D O 5 D 6");
    int[] want = {ALL, ALL, ON[0], ON[0], 0, ON[0], ON[0], ON[0], ALL, ALL - ON[0], ALL, ALL};
    for (int i = 0; i < want.length; i++) {
      Check.equal("presence(" + i + ")", x.presence(i), want[i]);
    }
    VariantParser y = Make.parser("1 W0 2");
    Check.equal("presence(2)", y.presence(2), ON[0]);
    y.drop();
    y.drop();
    y.when(0, false);
    y.write('2');
    Check.equal("presence(2) of another source", y.presence(2), ALL - ON[0]);
    VariantParser full = Make.parser("W3" + Make.repeat("1", 79));
    Check.equal("presence(1) of 80", full.presence(1), ON[3]);
    Check.equal("presence(79) of 80", full.presence(79), ON[3]);
  }

  private static void presenceOfNone() {
    VariantParser x = Make.parser("1 W0");
    int[] none = {-1, 2, 3, 79, 80, MIN, MAX};
    for (int item : none) {
      Check.throwing("presence(" + item + ")", x, INDEX, () -> x.presence(item));
    }
    Check.equal("presence(0)", x.presence(0), ALL);
    Check.equal("presence(1)", x.presence(1), ALL);
    x.drop();
    Check.throwing("presence(1) behind drop()", x, INDEX, () -> x.presence(1));
    VariantParser full = Make.tokens(80);
    Check.equal("presence(79) of 80", full.presence(79), ALL);
    Check.throwing("presence(80) of 80", full, INDEX, () -> full.presence(80));
  }

  private static void onAhead() {
    VariantParser x = Make.parser("S0 C0 W1 S0 O D W0 V0 S3 D D 1");
    int[] want = {ON[0], ALL, 0, 0, ON[1], ON[1], ON[1], ON[1], ON[1], ON[1], ON[1], ON[1]};
    for (int i = 0; i < want.length; i++) {
      Check.equal("on(0, " + i + ")", x.on(0, i), want[i]);
      Check.equal("on(3, " + i + ")", x.on(3, i), ON[3]);
    }
    Check.equal("on(0, 1) in no active one", Make.parser("W0 1 D").on(0, 1), ON[0]);
    Check.equal("on(0, 1) in all others", Make.parser("V0 1 D").on(0, 1), ON[0]);
    VariantParser full = Make.parser(Make.repeat("1", 78) + "S0 1");
    Check.equal("on(0, 78)", full.on(0, 78), ON[0]);
    Check.equal("on(0, 79)", full.on(0, 79), ALL);
    full.drop();
    full.drop();
    full.set(0, false);
    full.write('1');
    Check.equal("on(0, 79) of another source", full.on(0, 79), 0);
  }

  private static void onOfNoFeature() {
    VariantParser x = Make.parser("1");
    int[] none = {-1, 4, 5, MIN, MAX};
    for (int feature : none) {
      Check.throwing("on(" + feature + ", 0)", x, INDEX, () -> x.on(feature, 0));
      Check.throwing("on(" + feature + ", 1)", x, INDEX, () -> x.on(feature, 1));
    }
    for (int feature = 0; feature < 4; feature++) {
      Check.equal("on(" + feature + ", 0)", x.on(feature, 0), ON[feature]);
    }
  }

  private static void onOfNoItem() {
    VariantParser x = Make.parser("1 W0");
    int[] none = {-1, 2, 3, 79, 80, MIN, MAX};
    for (int item : none) {
      Check.throwing("on(0, " + item + ")", x, INDEX, () -> x.on(0, item));
      Check.throwing("on(3, " + item + ")", x, INDEX, () -> x.on(3, item));
    }
    Check.equal("on(0, 0)", x.on(0, 0), ON[0]);
    Check.equal("on(3, 1)", x.on(3, 1), ON[3]);
    x.drop();
    Check.throwing("on(0, 1) behind drop()", x, INDEX, () -> x.on(0, 1));
    VariantParser full = Make.tokens(80);
    Check.equal("on(3, 79) of 80", full.on(3, 79), ON[3]);
    Check.throwing("on(3, 80) of 80", full, INDEX, () -> full.on(3, 80));
  }

  private static void features() {
    VariantParser x = new VariantParser();
    Check.equal("features() of none", x.features(0), 0);
    Check.equal("features() of all", x.features(ALL), 0);
    for (int c = 0; c < 16; c++) {
      Check.equal("features() of one", x.features(1 << c), 15);
      Check.equal("features() of all but one", x.features(ALL - (1 << c)), 15);
      for (int f = 0; f < 4; f++) {
        int pair = 1 << c | 1 << (c ^ 1 << f);
        Check.equal("features() of two that differ in " + f, x.features(pair), 15 - (1 << f));
        Check.equal("features() of all but these", x.features(ALL - pair), 15 - (1 << f));
      }
    }
    for (int f = 0; f < 4; f++) {
      Check.equal("features() of those with " + f, x.features(ON[f]), 1 << f);
      Check.equal("features() of those without " + f, x.features(ALL - ON[f]), 1 << f);
    }
    Check.equal("features() of those with all or none", x.features(32769), 15);
    Check.equal("features() of those with an even number of features", x.features(38505), 15);
    VariantParser y = Make.parser("W0 S1 ) D");
    Check.equal("features(1) of another source", y.features(1), 15);
  }

  private static void featuresOfNoSet() {
    VariantParser x = new VariantParser();
    int[] none = {-1, -65536, 65536, 65537, 131071, MIN, MAX};
    for (int configurations : none) {
      Check.throwing("features(" + configurations + ")", x, ARGUMENT,
          () -> x.features(configurations));
    }
    Check.equal("features(0)", x.features(0), 0);
    Check.equal("features(65535)", x.features(65535), 0);
    Check.equal("features(65534)", x.features(65534), 15);
  }

  private static void dead() {
    Check.equal("dead() of no items", new VariantParser().dead(), 0);
    Check.equal("dead() of tokens", Make.tokens(80).dead(), 0);
    Check.equal("dead() of those in one", Make.parser("W0 W1 W2 W3 1 DDDD").dead(), 0);
    Check.equal("dead() of those in none", Make.parser("W0 W1 W2 W3 V0 12 DDDDD").dead(), 2);
    Check.equal("dead() of directives", Make.parser("S0 V0 W1 O D S2 C3 O D").dead(), 0);
    VariantParser x = Make.parser("S0 V0" + Make.repeat("1", 78));
    Check.equal("dead() of 78", x.dead(), 78);
    x.drop();
    Check.equal("dead() of 77", x.dead(), 77);
    VariantParser y = Make.parser("S0 V0 1 O 2");
    Check.equal("dead() behind an OTHERWISE", y.dead(), 1);
    Check.equal("dead() in the OTHERWISE", Make.parser("S0 W0 1 O 2").dead(), 1);
  }

  private static void length() {
    VariantParser x = Make.parser("W0" + Make.repeat("1", 78) + "D");
    Check.equal("length(0) of none", x.length(0), 0);
    Check.equal("length(15) of 78", x.length(15), 78);
    Check.equal("length(0) of 80", Make.tokens(80).length(0), 80);
    Check.equal("length(15) of 80", Make.tokens(80).length(15), 80);
    VariantParser y = new VariantParser();
    Check.equal("length(0) of no items", y.length(0), 0);
    y.write('1');
    Check.equal("length(0) of 1", y.length(0), 1);
    y.set(0, true);
    Check.equal("length(0) behind a SET", y.length(0), 1);
    y.drop();
    y.drop();
    Check.equal("length(0) of none left", y.length(0), 0);
    Check.equal("length(0) of a text with an error", Make.parser(")!1").length(0), 3);
  }

  private static void lengthOfNoConfiguration() {
    VariantParser x = Make.parser("1");
    int[] none = {-1, 16, 17, MIN, MAX};
    for (int c : none) {
      Check.throwing("length(" + c + ")", x, INDEX, () -> x.length(c));
    }
    for (int c = 0; c < 16; c++) {
      Check.equal("length(" + c + ")", x.length(c), 1);
    }
  }

  private static void place() {
    VariantParser x = Make.parser("S0 1 W1 2 O 3 D 4");
    Check.equal("place(0, 0)", x.place(0, 0), 1);
    Check.equal("place(0, 1)", x.place(0, 1), 5);
    Check.equal("place(0, 2)", x.place(0, 2), 7);
    Check.equal("place(15, 1)", x.place(15, 1), 3);
    Check.equal("place(15, 2)", x.place(15, 2), 7);
    VariantParser full = Make.tokens(80);
    Check.equal("place(0, 0) of 80", full.place(0, 0), 0);
    Check.equal("place(15, 79) of 80", full.place(15, 79), 79);
    Check.equal("place(0, 2) of a text with an error", Make.parser(")!1").place(0, 2), 2);
  }

  private static void placeOfNoConfiguration() {
    VariantParser x = Make.parser("1");
    int[] none = {-1, 16, 17, MIN, MAX};
    for (int c : none) {
      Check.throwing("place(" + c + ", 0)", x, INDEX, () -> x.place(c, 0));
      Check.throwing("place(" + c + ", 1)", x, INDEX, () -> x.place(c, 1));
    }
    for (int c = 0; c < 16; c++) {
      Check.equal("place(" + c + ", 0)", x.place(c, 0), 0);
    }
  }

  private static void placeOfNoIndex() {
    VariantParser x = Make.parser("1 W0 23 D");
    int[] none = {-1, 3, 4, 79, 80, MIN, MAX};
    for (int index : none) {
      Check.throwing("place(1, " + index + ")", x, INDEX, () -> x.place(1, index));
    }
    Check.equal("place(1, 0)", x.place(1, 0), 0);
    Check.equal("place(1, 2)", x.place(1, 2), 3);
    Check.equal("place(0, 0)", x.place(0, 0), 0);
    Check.throwing("place(0, 1)", x, INDEX, () -> x.place(0, 1));
    VariantParser none0 = Make.parser("W0 1 D");
    Check.throwing("place(0, 0) of no tokens", none0, INDEX, () -> none0.place(0, 0));
    VariantParser full = Make.tokens(80);
    Check.throwing("place(0, 80) of 80", full, INDEX, () -> full.place(0, 80));
    full.drop();
    Check.throwing("place(0, 79) behind drop()", full, INDEX, () -> full.place(0, 79));
  }

  private static void variants() {
    Check.equal("variants() of no items", new VariantParser().variants(), 1);
    Check.equal("variants() of one text", Make.tokens(80).variants(), 1);
    Check.equal("variants() of a text and none", Make.parser("W0 1 D").variants(), 2);
    Check.equal("variants() of one other", Make.parser("W0 W1 W2 W3 1 DDDD").variants(), 2);
    Check.equal("variants() of beginnings", Make.parser("1 W0 2 D W1 3 D").variants(), 4);
    Check.equal("variants() of endings", Make.parser("W0 2 D 1").variants(), 2);
    Check.equal("variants() of another token", Make.parser("W0 1 O 2 D").variants(), 2);
    Check.equal("variants() of another order", Make.parser("W0 12 O 21 D").variants(), 2);
    Check.equal("variants() of the same in other items", Make.parser("W0 1 O 1 D").variants(), 1);
    Check.equal("variants() of dead tokens", Make.parser("S0 V0 1 D").variants(), 1);
    VariantParser x = Make.parser("W0 1 O 2 D W1 3 O 4 D W2 5 O 6 D W3 7 O 8 D");
    Check.equal("variants() of 16", x.variants(), 16);
    x.replace(1, '2');
    Check.equal("variants() of 8", x.variants(), 8);
    VariantParser y = Make.parser("W0 1 O" + Make.repeat("1", 77));
    Check.equal("variants() of 1 and 77 tokens", y.variants(), 2);
    VariantParser z = Make.parser(Make.repeat("1", 76) + "W0 2 D 3");
    Check.equal("variants() that differ in the end", z.variants(), 2);
    VariantParser error = Make.parser("W0 )1 O )2 D");
    Check.equal("variants() with errors", error.variants(), 2);
  }
}
