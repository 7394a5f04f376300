/** 'What it is', and 'Configurations' and 'Items' of the description: the sentences with an edge. */
public final class EdgesOfItemsTest {
  private static final Class<?> INDEX = IndexOutOfBoundsException.class;
  private static final Class<?> STATE = IllegalStateException.class;
  private static final Class<?> ARGUMENT = IllegalArgumentException.class;
  private static final String TOKENS = "0123456789abcd+-*()=;{}?:!";
  private static final int ALL = 65535;
  private static final int[] ON = {43690, 52428, 61680, 65280};

  private EdgesOfItemsTest() {}

  public static void main(String[] args) {
    Check.sentence("An object is used for at most 512 calls", EdgesOfItemsTest::calls);
    Check.sentence("There are 4 features, 0 to 3", EdgesOfItemsTest::features);
    Check.sentence("A configuration says which of them are on at first", EdgesOfItemsTest::onAtFirst);
    Check.sentence("there are 16 configurations, 0 to 15", EdgesOfItemsTest::configurations);
    Check.sentence("A set of configurations is told as the sum of the powers 2^c",
        EdgesOfItemsTest::sets);
    Check.sentence("a sequence of at most 80 items", EdgesOfItemsTest::items);
    Check.sentence("numbered from 0", EdgesOfItemsTest::numbers);
    Check.sentence("Tokens are the characters 0 to 9, a to d, + - * ( ) = ; { } ? : and !",
        EdgesOfItemsTest::tokens);
    Check.sentence("each WHEN has at most one OTHERWISE", EdgesOfItemsTest::oneOtherwise);
    Check.sentence("and is finished by its DONE", EdgesOfItemsTest::finished);
    Check.sentence("at most 5 that are not finished at the same time",
        EdgesOfItemsTest::fiveUnfinished);
    Check.sentence("the configurations that are active, at first all of them",
        EdgesOfItemsTest::activeAtFirst);
    Check.sentence("At a WHEN those configurations stay active in which, at this moment, its feature"
        + " is on (or off, as it says)", EdgesOfItemsTest::activeInWhen);
    Check.sentence("at its OTHERWISE those become active instead that were active ahead of the WHEN"
        + " and did not stay so", EdgesOfItemsTest::activeInOtherwise);
    Check.sentence("at its DONE those are active again that were active ahead of the WHEN",
        EdgesOfItemsTest::activeBehindDone);
    Check.sentence("A SET turns its feature on (or off) in the active configurations",
        EdgesOfItemsTest::set);
    Check.sentence("An item is present in the configurations that are active ahead of it",
        EdgesOfItemsTest::present);
    Check.sentence("a DONE and an OTHERWISE are present in those that were active ahead of their WHEN",
        EdgesOfItemsTest::presentDirectives);
    Check.sentence("the sequence of the tokens that are present in it", EdgesOfItemsTest::variant);
    Check.end();
  }

  private static void presenceOfLast(String notation, int want) {
    VariantParser x = Make.parser(notation);
    Check.equal(notation + ": presence of the last", x.presence(x.size() - 1), want);
  }

  // ---- What it is

  private static void calls() {
    VariantParser writes = new VariantParser();
    for (int k = 0; k < 256; k++) {
      Check.equal("write(';') as call " + (2 * k + 1), writes.write(';'), 1);
      Check.equal("drop() as call " + (2 * k + 2), writes.drop(), 0);
    }
    VariantParser runs = new VariantParser();
    runs.write(Make.number("!1;"));
    for (int k = 0; k < 255; k++) {
      runs.replace(1, '0' + k % 10);
      Check.equal("output(15, 0) as call " + (2 * k + 3), runs.output(15, 0), k % 10);
    }
    Check.equal("size() as call 512", runs.size(), 3);
    VariantParser refuses = new VariantParser();
    for (int k = 1; k <= 511; k++) {
      Check.equalText("done() as call " + k, Check.thrownBy(refuses::done), STATE.getName());
    }
    Check.equal("write('1') as call 512", refuses.write('1'), 1);
    VariantParser full = Make.parser(Make.repeat("!1;", 26) + "!1");
    for (int k = 81; k <= 512; k++) {
      Check.equal("wrong() as call " + k, full.wrong(), ALL);
    }
  }

  // ---- Configurations

  private static void features() {
    for (int feature = 0; feature <= 3; feature++) {
      VariantParser x = new VariantParser();
      Check.equal("when(" + feature + ", true)", x.when(feature, true), 1);
      Check.equal("when(" + feature + ", false)", x.when(feature, false), 2);
      Check.equal("set(" + feature + ", true)", x.set(feature, true), 3);
      Check.equal("set(" + feature + ", false)", x.set(feature, false), 4);
      Check.equal("on(" + feature + ", 0)", x.on(feature, 0), ON[feature]);
    }
    int[] none = {-1, 4, Integer.MIN_VALUE, Integer.MAX_VALUE};
    VariantParser x = Make.parser("1");
    for (int feature : none) {
      Check.throwing("when(" + feature + ", true)", x, INDEX, () -> x.when(feature, true));
      Check.throwing("when(" + feature + ", false)", x, INDEX, () -> x.when(feature, false));
      Check.throwing("set(" + feature + ", true)", x, INDEX, () -> x.set(feature, true));
      Check.throwing("set(" + feature + ", false)", x, INDEX, () -> x.set(feature, false));
      Check.throwing("on(" + feature + ", 0)", x, INDEX, () -> x.on(feature, 0));
    }
  }

  private static void onAtFirst() {
    VariantParser x = Make.parser("1");
    for (int configuration = 0; configuration < 16; configuration++) {
      int sum = 0;
      for (int feature = 0; feature < 4; feature++) {
        sum += (x.on(feature, 0) >> configuration & 1) << feature;
      }
      Check.equal("the features that are on in " + configuration, sum, configuration);
    }
  }

  private static void configurations() {
    for (int c = 0; c < 16; c++) {
      VariantParser x = Make.parser("!7;");
      Check.equal("length(" + c + ")", x.length(c), 3);
      Check.equal("place(" + c + ", 2)", x.place(c, 2), 2);
      Check.equal("error(" + c + ")", x.error(c), -1);
      Check.equal("stack(" + c + ", 0)", x.stack(c, 0), 1);
      Check.equal("outputs(" + c + ")", x.outputs(c), 1);
      Check.equal("output(" + c + ", 0)", x.output(c, 0), 7);
      Check.equal("variable(" + c + ", 0)", x.variable(c, 0), 0);
    }
    int[] none = {-1, 16, Integer.MIN_VALUE, Integer.MAX_VALUE};
    VariantParser x = Make.parser("!7;");
    for (int c : none) {
      Check.throwing("length(" + c + ")", x, INDEX, () -> x.length(c));
      Check.throwing("place(" + c + ", 2)", x, INDEX, () -> x.place(c, 2));
      Check.throwing("error(" + c + ")", x, INDEX, () -> x.error(c));
      Check.throwing("stack(" + c + ", 0)", x, INDEX, () -> x.stack(c, 0));
      Check.throwing("outputs(" + c + ")", x, INDEX, () -> x.outputs(c));
      Check.throwing("output(" + c + ", 0)", x, INDEX, () -> x.output(c, 0));
      Check.throwing("variable(" + c + ", 0)", x, INDEX, () -> x.variable(c, 0));
    }
  }

  private static void sets() {
    presenceOfLast("W0 V0 1", 0);
    presenceOfLast("1", ALL);
    for (int c = 0; c < 16; c++) {
      StringBuilder whens = new StringBuilder();
      for (int feature = 0; feature < 4; feature++) {
        whens.append((c >> feature & 1) == 1 ? 'W' : 'V').append(feature);
      }
      presenceOfLast(whens + "1", 1 << c);
      Check.equal(whens + ": wrong()", Make.parser(whens + "; DDDD").wrong(), 1 << c);
    }
  }

  // ---- Items

  private static void items() {
    String most = "W0" + Make.repeat("1", 77);
    Check.equal("a token as item 80", Make.parser(most + "0").write('2'), 80);
    Check.equal("a WHEN as item 80", Make.parser(most + "0").when(3, true), 80);
    Check.equal("an OTHERWISE as item 80", Make.parser(most + "0").otherwise(), 80);
    Check.equal("a DONE as item 80", Make.parser(most + "0").done(), 80);
    Check.equal("a SET as item 80", Make.parser(most + "0").set(3, true), 80);
    VariantParser x = Make.parser(most + "00");
    Check.throwing("a token as item 81", x, STATE, () -> x.write('2'));
    Check.throwing("a WHEN as item 81", x, STATE, () -> x.when(3, true));
    Check.throwing("an OTHERWISE as item 81", x, STATE, x::otherwise);
    Check.throwing("a DONE as item 81", x, STATE, x::done);
    Check.throwing("a SET as item 81", x, STATE, () -> x.set(3, true));
  }

  private static void numbers() {
    VariantParser x = Make.parser("2" + Make.repeat("1", 78) + "3");
    Check.equal("item(0)", x.item(0), '2');
    Check.equal("item(1)", x.item(1), '1');
    Check.equal("item(78)", x.item(78), '1');
    Check.equal("item(79)", x.item(79), '3');
    Check.equal("presence(79)", x.presence(79), ALL);
    Check.equal("on(0, 79)", x.on(0, 79), ON[0]);
    Check.equal("place(0, 79)", x.place(0, 79), 79);
    Check.equal("groups(79)", x.groups(79), 0);
    Check.equal("replace(79, '4')", x.replace(79, '4'), '3');
    Check.throwing("item(-1)", x, INDEX, () -> x.item(-1));
    Check.throwing("item(80)", x, INDEX, () -> x.item(80));
  }

  private static void tokens() {
    for (int k = -700; k <= 700; k++) {
      int character = k;
      VariantParser x = Make.parser("1");
      boolean isToken = k >= 0 && TOKENS.indexOf(k) >= 0;
      if (isToken) {
        Check.equal("replace(0, " + k + ")", x.replace(0, character), '1');
        Check.equal("write(" + k + ")", x.write(character), 2);
        Check.equal("item(0)", x.item(0), k);
        Check.equal("item(1)", x.item(1), k);
      } else {
        Check.throwing("replace(0, " + k + ")", x, ARGUMENT, () -> x.replace(0, character));
        if (k > 0 && k < 256) {
          Check.throwing("write(" + k + ")", x, ARGUMENT, () -> x.write(character));
        }
      }
    }
  }

  private static void oneOtherwise() {
    Check.equal("a WHEN without one", Make.parser("W0 1 D").unfinished(), 0);
    Check.equal("a WHEN with one", Make.parser("W0 1").otherwise(), 3);
    VariantParser x = Make.parser("W0 O");
    Check.throwing("a second one", x, STATE, x::otherwise);
    x.write('1');
    Check.throwing("a second one behind a token", x, STATE, x::otherwise);
    x.set(0, true);
    Check.throwing("a second one behind a SET", x, STATE, x::otherwise);
    x.when(1, true);
    Check.equal("one of a WHEN within", x.otherwise(), 6);
    Check.throwing("a second one within", x, STATE, x::otherwise);
    x.done();
    Check.throwing("a second one behind a WHEN within", x, STATE, x::otherwise);
    x.done();
    x.when(2, true);
    Check.equal("one of the next WHEN", x.otherwise(), 10);
    VariantParser outer = Make.parser("W0 W1 O D");
    Check.equal("one of a WHEN around one with one", outer.otherwise(), 5);
    VariantParser deep = Make.parser("W0W0W0W0W0");
    for (int size = 6; size <= 14; size += 2) {
      Check.equal("one of each of 5", deep.otherwise(), size);
      Check.throwing("a second one of each of 5", deep, STATE, deep::otherwise);
      deep.done();
    }
    Check.throwing("one behind all 5", deep, STATE, deep::otherwise);
  }

  private static void finished() {
    VariantParser x = Make.parser("W0");
    Check.throwing("wrong() of a WHEN", x, STATE, x::wrong);
    x.otherwise();
    Check.throwing("wrong() of a WHEN with an OTHERWISE", x, STATE, x::wrong);
    Check.equal("done()", x.done(), 3);
    Check.equal("wrong() of a WHEN with a DONE", x.wrong(), 0);
    Check.throwing("a second DONE", x, STATE, x::done);
    VariantParser two = Make.parser("W0 W1 D");
    Check.throwing("wrong() of two WHENs with one DONE", two, STATE, two::wrong);
    two.done();
    Check.equal("wrong() of two WHENs with two DONEs", two.wrong(), 0);
    Check.throwing("a third DONE", two, STATE, two::done);
  }

  private static void fiveUnfinished() {
    VariantParser x = Make.parser("W0 V1 W2 V3");
    Check.equal("a fifth WHEN", x.when(0, false), 5);
    Check.throwing("a sixth WHEN", x, STATE, () -> x.when(0, true));
    x.otherwise();
    Check.throwing("a sixth WHEN behind an OTHERWISE", x, STATE, () -> x.when(0, true));
    x.done();
    Check.equal("a fifth WHEN again", x.when(1, true), 8);
    Check.throwing("a sixth WHEN again", x, STATE, () -> x.when(1, true));
    VariantParser y = Make.parser(Make.repeat("W0 D", 20));
    for (int k = 1; k <= 5; k++) {
      Check.equal("WHEN " + k + " behind 20 that are finished", y.when(0, true), 40 + k);
    }
    Check.throwing("WHEN 6 behind 20 that are finished", y, STATE, () -> y.when(0, true));
    presenceOfLast("W0 W1 W2 W3 V3 O 1", 32768);
  }

  private static void activeAtFirst() {
    String[] notations = {"1", "W0", "V3", "S0", "C3"};
    for (String notation : notations) {
      presenceOfLast(notation, ALL);
    }
  }

  private static void activeInWhen() {
    presenceOfLast("S0 W0 1", ALL);
    presenceOfLast("S0 V0 1", 0);
    presenceOfLast("C0 W0 1", 0);
    presenceOfLast("C0 V0 1", ALL);
    presenceOfLast("W0 W0 1", ON[0]);
    presenceOfLast("W0 V0 1", 0);
    presenceOfLast("W0 V0 W1 1", 0);
    presenceOfLast("W0 C0 1", ON[0]);
    presenceOfLast("W0 C0 W0 1", 0);
    presenceOfLast("W1 S0 D W0 1", ON[0] | ON[1]);
    presenceOfLast("V0 V1 V2 V3 V0 1", 1);
    presenceOfLast("W0 W1 W2 W3 W0 1", 32768);
  }

  private static void activeInOtherwise() {
    presenceOfLast("S0 W0 O 1", 0);
    presenceOfLast("S0 V0 O 1", ALL);
    presenceOfLast("W0 O 1", ALL - ON[0]);
    presenceOfLast("V0 O 1", ON[0]);
    presenceOfLast("W0 W0 O 1", 0);
    presenceOfLast("W0 V0 O 1", ON[0]);
    presenceOfLast("W0 V0 W1 O 1", 0);
    presenceOfLast("W0 C0 O 1", ALL - ON[0]);
    presenceOfLast("V0 S0 O 1", ON[0]);
    presenceOfLast("W0 W1 D O 1", ALL - ON[0]);
    presenceOfLast("W0 W1 O D O 1", ALL - ON[0]);
    presenceOfLast("W0 W1 W2 W3 V0 O 1", 32768);
  }

  private static void activeBehindDone() {
    presenceOfLast("W0 D 1", ALL);
    presenceOfLast("W0 O D 1", ALL);
    presenceOfLast("W0 C0 D 1", ALL);
    presenceOfLast("S0 V0 D 1", ALL);
    presenceOfLast("W0 V0 D 1", ON[0]);
    presenceOfLast("W0 V0 W1 D 1", 0);
    VariantParser x = Make.parser("W0 W1 W2 W3 W3 O");
    int[] want = {32768, ON[0] & ON[1] & ON[2], ON[0] & ON[1], ON[0], ALL};
    for (int k = 0; k < 5; k++) {
      x.done();
      int size = x.write('1');
      Check.equal("presence behind " + (k + 1) + " DONEs of 5", x.presence(size - 1), want[k]);
    }
  }

  private static void set() {
    for (int f = 0; f < 4; f++) {
      Check.equal("on behind SET on", Make.parser("S" + f + "1").on(f, 1), ALL);
      Check.equal("on behind SET off", Make.parser("C" + f + "1").on(f, 1), 0);
      Check.equal("on behind SET on twice", Make.parser("S" + f + "S" + f + "1").on(f, 2), ALL);
      Check.equal("on behind SET off, on", Make.parser("C" + f + "S" + f + "1").on(f, 2), ALL);
      Check.equal("on behind SET on, off", Make.parser("S" + f + "C" + f + "1").on(f, 2), 0);
    }
    Check.equal("on behind SET on in none", Make.parser("W0 V0 S1 D D 1").on(1, 5), ON[1]);
    Check.equal("on behind SET off in none", Make.parser("W0 V0 C1 D D 1").on(1, 5), ON[1]);
    Check.equal("on behind SET on in some", Make.parser("W0 S1 D 1").on(1, 3), ON[1] | ON[0]);
    Check.equal("on behind SET off in some", Make.parser("W0 C1 D 1").on(1, 3), ON[1] & ~ON[0]);
    Check.equal("on of another feature", Make.parser("S1 C2 1").on(0, 2), ON[0]);
    Check.equal("on behind SET in OTHERWISE", Make.parser("W0 O S1 D 1").on(1, 4),
        ON[1] | (ALL - ON[0]));
  }

  private static void present() {
    presenceOfLast("W0 W1", ON[0]);
    presenceOfLast("W0 V0", ON[0]);
    presenceOfLast("W0 S0", ON[0]);
    presenceOfLast("W0 C0", ON[0]);
    presenceOfLast("W0 V0 S1", 0);
    presenceOfLast("W0 V0 W1", 0);
    presenceOfLast("S0 V0", ALL);
  }

  private static void presentDirectives() {
    presenceOfLast("W0 O", ALL);
    presenceOfLast("W0 D", ALL);
    presenceOfLast("W0 O D", ALL);
    presenceOfLast("S0 V0 O", ALL);
    presenceOfLast("S0 V0 D", ALL);
    presenceOfLast("W0 V0 W1 O", 0);
    presenceOfLast("W0 V0 W1 D", 0);
    presenceOfLast("W0 V0 W1 O D", 0);
    presenceOfLast("W0 W1 C0 O", ON[0]);
    presenceOfLast("W0 W1 C0 D", ON[0]);
    presenceOfLast("W0 W1 W2 W3 V3 O", 32768);
    presenceOfLast("W0 W1 W2 W3 V3 D", 32768);
  }

  private static void variant() {
    Check.equal("length(0) of no items", new VariantParser().length(0), 0);
    Check.equal("length(0) of directives", Make.parser("S0 W0 O D C0").length(0), 0);
    Check.equal("length(0) of tokens elsewhere", Make.parser("W0 12 D").length(0), 0);
    Check.equal("length(1) of tokens here", Make.parser("W0 12 D").length(1), 2);
    VariantParser x = Make.parser(Make.repeat("1", 80));
    Check.equal("length(0) of 80 tokens", x.length(0), 80);
    Check.equal("length(15) of 80 tokens", x.length(15), 80);
    VariantParser y = Make.parser("W0" + Make.repeat("1", 78) + "D");
    Check.equal("length(0) beside 78 tokens", y.length(0), 0);
    Check.equal("length(1) of 78 tokens", y.length(1), 78);
  }
}
