import java.math.BigInteger;
import java.util.NoSuchElementException;
import java.util.function.Consumer;

/** Promises 26 to 30, running and the digest: the sentences with an edge. */
public final class EdgesOfPromises26To30Test {
  private static final Class<?> INDEX = IndexOutOfBoundsException.class;
  private static final Class<?> STATE = IllegalStateException.class;
  private static final Class<?> MISSING = NoSuchElementException.class;
  private static final Class<?> ARGUMENT = IllegalArgumentException.class;
  private static final long ALL = 65535;
  private static final int MIN = Integer.MIN_VALUE;
  private static final int MAX = Integer.MAX_VALUE;
  private static final int[] NO_CONFIGURATIONS = {-1, 16, 17, MIN, MAX};
  /** 78 items. */
  private static final String LONG = Make.repeat("!1;", 26);
  private static final String[] UNFINISHED = {"!1; W0", "!1; W0 O", "!1; W0 O W1 D",
      "!1; W0 W1 W2 W3 W0"};
  /** Each is wrong in configuration 15. */
  private static final String[] WRONG = {")", "!", "!1", "!1;)", LONG + "!1", "W0 ) D !1;",
      "W0W1W2W3 ! DDDD"};

  private EdgesOfPromises26To30Test() {}

  public static void main(String[] args) {
    Check.sentence("26: how many values its variant writes", EdgesOfPromises26To30Test::outputs);
    Check.sentence("26: if configuration is not 0 to 15",
        EdgesOfPromises26To30Test::outputsOfNoConfiguration);
    Check.sentence("26: if a WHEN is not finished", EdgesOfPromises26To30Test::outputsUnfinished);
    Check.sentence("26: if its variant has an error", EdgesOfPromises26To30Test::outputsOfError);
    Check.sentence("27: the number of a value that it writes, from 0",
        EdgesOfPromises26To30Test::output);
    Check.sentence("27: if configuration is not 0 to 15",
        EdgesOfPromises26To30Test::outputOfNoConfiguration);
    Check.sentence("27: if a WHEN is not finished", EdgesOfPromises26To30Test::outputUnfinished);
    Check.sentence("27: if its variant has an error", EdgesOfPromises26To30Test::outputOfError);
    Check.sentence("27: if there is no such value", EdgesOfPromises26To30Test::outputOfNone);
    Check.sentence("28: the value of the variable behind its variant",
        EdgesOfPromises26To30Test::variable);
    Check.sentence("28: if configuration is not 0 to 15",
        EdgesOfPromises26To30Test::variableOfNoConfiguration);
    Check.sentence("28: if a WHEN is not finished", EdgesOfPromises26To30Test::variableUnfinished);
    Check.sentence("28: if its variant has an error", EdgesOfPromises26To30Test::variableOfError);
    Check.sentence("28: if variable is not 0 to 3", EdgesOfPromises26To30Test::variableOfNone);
    Check.sentence("29: the configurations whose variants have no error",
        EdgesOfPromises26To30Test::behavioursOfErrors);
    Check.sentence("29: two are in the same class if they write the same values, in the same order",
        EdgesOfPromises26To30Test::behaviours);
    Check.sentence("29: if a WHEN is not finished",
        EdgesOfPromises26To30Test::behavioursUnfinished);
    Check.sentence("30: A number d starts with 139; the number of items",
        EdgesOfPromises26To30Test::digestOfNone);
    Check.sentence("30: for each of them what item() tells, and its presence",
        EdgesOfPromises26To30Test::digestOfItems);
    Check.sentence("30: if no WHEN is unfinished", EdgesOfPromises26To30Test::digestUnfinished);
    Check.sentence("30: the place of the error of its variant (-1 for none)",
        EdgesOfPromises26To30Test::digestOfErrors);
    Check.sentence("30: if it has none, the number of values that it writes, and these",
        EdgesOfPromises26To30Test::digestOfValues);
    Check.sentence("30: which wraps around as a 64-bit integer",
        EdgesOfPromises26To30Test::digestWraps);
    Check.end();
  }

  /** Refused while one of the WHENs is not finished, and answered behind the last DONE. */
  private static void whileUnfinished(String call, Consumer<VariantParser> run) {
    for (String notation : UNFINISHED) {
      VariantParser x = Make.parser(notation);
      while (x.unfinished() > 0) {
        Check.throwing(notation + ": " + call, x, STATE, () -> run.accept(x));
        x.done();
      }
      Check.equalText(notation + ": " + call + " when finished",
          Check.thrownBy(() -> run.accept(x)), "nothing");
      x.drop();
      Check.throwing(notation + ": " + call + " behind drop()", x, STATE, () -> run.accept(x));
    }
  }

  /** Refused where the variant of configuration 15 has an error, and no longer without it. */
  private static void whileWrong(String call, String wantWithout, Consumer<VariantParser> run) {
    for (String notation : WRONG) {
      VariantParser x = Make.parser(notation);
      Check.throwing(notation + ": " + call, x, MISSING, () -> run.accept(x));
      while (x.size() > 0) {
        x.drop();
      }
      Check.equalText(notation + ": " + call + " of no items",
          Check.thrownBy(() -> run.accept(x)), wantWithout);
    }
  }

  // ---- promise 26

  private static void outputs() {
    Check.equal("outputs(0) of no items", new VariantParser().outputs(0), 0);
    Check.equal("outputs(0) without !", Make.parser("a=1;").outputs(0), 0);
    Check.equal("outputs(0) of one", Make.parser("!1;").outputs(0), 1);
    Check.equal("outputs(0) of 26", Make.parser(LONG).outputs(0), 26);
    Check.equal("outputs(15) of 26, in 80 items", Make.parser(LONG + "{}").outputs(15), 26);
    Check.equal("outputs(0) of one that is not executed", Make.parser("?0!1;").outputs(0), 0);
    VariantParser x = Make.parser("W0 !1; D W1 !2; D");
    int[] want = {0, 1, 1, 2};
    for (int c = 0; c < 16; c++) {
      Check.equal("outputs(" + c + ")", x.outputs(c), want[c % 4]);
    }
    VariantParser y = Make.parser("!1;!2;");
    Check.equal("outputs(0) of two", y.outputs(0), 2);
    y.drop();
    y.drop();
    y.drop();
    Check.equal("outputs(0) behind drop()", y.outputs(0), 1);
  }

  private static void outputsOfNoConfiguration() {
    VariantParser x = Make.parser("!7;");
    for (int c : NO_CONFIGURATIONS) {
      Check.throwing("outputs(" + c + ")", x, INDEX, () -> x.outputs(c));
    }
    for (int c = 0; c < 16; c++) {
      Check.equal("outputs(" + c + ")", x.outputs(c), 1);
    }
  }

  private static void outputsUnfinished() {
    whileUnfinished("outputs(0)", x -> x.outputs(0));
    whileUnfinished("outputs(15)", x -> x.outputs(15));
  }

  private static void outputsOfError() {
    whileWrong("outputs(15)", "nothing", x -> x.outputs(15));
    VariantParser x = Make.parser("W0 ) D !1;");
    Check.throwing("outputs(1)", x, MISSING, () -> x.outputs(1));
    Check.equal("outputs(0) beside it", x.outputs(0), 1);
    x.replace(1, '!');
    Check.throwing("outputs(1) of another error", x, MISSING, () -> x.outputs(1));
    Check.equal("outputs(2) beside it", x.outputs(2), 1);
  }

  // ---- promise 27

  private static void output() {
    VariantParser x = Make.parser("!7;!8;!9;");
    Check.equal("output(0, 0)", x.output(0, 0), 7);
    Check.equal("output(0, 1)", x.output(0, 1), 8);
    Check.equal("output(15, 2)", x.output(15, 2), 9);
    VariantParser full = Make.parser("!2;" + LONG.substring(6) + "!3;{}");
    Check.equal("output(0, 0) of 26", full.output(0, 0), 2);
    Check.equal("output(0, 1) of 26", full.output(0, 1), 1);
    Check.equal("output(0, 25) of 26", full.output(0, 25), 3);
    VariantParser y = Make.parser("W0 !1; D !2;");
    Check.equal("output(0, 0)", y.output(0, 0), 2);
    Check.equal("output(1, 0)", y.output(1, 0), 1);
    Check.equal("output(1, 1)", y.output(1, 1), 2);
    y.replace(6, '3');
    Check.equal("output(1, 1) behind replace()", y.output(1, 1), 3);
  }

  private static void outputOfNoConfiguration() {
    VariantParser x = Make.parser("!7;");
    for (int c : NO_CONFIGURATIONS) {
      Check.throwing("output(" + c + ", 0)", x, INDEX, () -> x.output(c, 0));
      Check.throwing("output(" + c + ", 1)", x, INDEX, () -> x.output(c, 1));
    }
    for (int c = 0; c < 16; c++) {
      Check.equal("output(" + c + ", 0)", x.output(c, 0), 7);
    }
  }

  private static void outputUnfinished() {
    whileUnfinished("output(0, 0)", x -> x.output(0, 0));
    whileUnfinished("output(15, 0)", x -> x.output(15, 0));
  }

  private static void outputOfError() {
    whileWrong("output(15, 0)", ARGUMENT.getName(), x -> x.output(15, 0));
    VariantParser x = Make.parser("!1; W0 ) D");
    Check.throwing("output(1, 0) ahead of the error", x, MISSING, () -> x.output(1, 0));
    Check.throwing("output(1, 1)", x, MISSING, () -> x.output(1, 1));
    Check.equal("output(0, 0) beside it", x.output(0, 0), 1);
  }

  private static void outputOfNone() {
    VariantParser x = Make.parser("!7;!8;");
    int[] none = {-1, 2, 3, 25, 26, 79, 80, MIN, MAX};
    for (int index : none) {
      Check.throwing("output(0, " + index + ")", x, ARGUMENT, () -> x.output(0, index));
      Check.throwing("output(15, " + index + ")", x, ARGUMENT, () -> x.output(15, index));
    }
    Check.equal("output(0, 0)", x.output(0, 0), 7);
    Check.equal("output(0, 1)", x.output(0, 1), 8);
    x.drop();
    x.drop();
    x.drop();
    Check.throwing("output(0, 1) behind drop()", x, ARGUMENT, () -> x.output(0, 1));
    VariantParser empty = new VariantParser();
    Check.throwing("output(0, 0) of no items", empty, ARGUMENT, () -> empty.output(0, 0));
    VariantParser full = Make.parser(LONG + "{}");
    Check.equal("output(0, 25) of 26", full.output(0, 25), 1);
    Check.throwing("output(0, 26) of 26", full, ARGUMENT, () -> full.output(0, 26));
    VariantParser y = Make.parser("W0 !1; D");
    Check.equal("output(1, 0)", y.output(1, 0), 1);
    Check.throwing("output(0, 0) beside it", y, ARGUMENT, () -> y.output(0, 0));
  }

  // ---- promise 28

  private static void variable() {
    VariantParser x = Make.parser("W0 a=1; D d=a+4; ?0 a=9; b=-1; b=b-1;");
    Check.equal("variable(1, 0)", x.variable(1, 0), 1);
    Check.equal("variable(0, 0) beside it", x.variable(0, 0), 0);
    Check.equal("variable(1, 3)", x.variable(1, 3), 5);
    Check.equal("variable(0, 3)", x.variable(0, 3), 4);
    Check.equal("variable(15, 1)", x.variable(15, 1), -2);
    Check.equal("variable(15, 2)", x.variable(15, 2), 0);
    VariantParser big = Make.parser("a=8*8*8*8*8*8*8*8*8*8*2;b=a-1;");
    Check.equal("variable(0, 0) of the least value", big.variable(0, 0), MIN);
    Check.equal("variable(0, 1) of the greatest value", big.variable(0, 1), MAX);
    VariantParser empty = new VariantParser();
    Check.equal("variable(15, 3) of no items", empty.variable(15, 3), 0);
  }

  private static void variableOfNoConfiguration() {
    VariantParser x = Make.parser("d=7;");
    for (int c : NO_CONFIGURATIONS) {
      Check.throwing("variable(" + c + ", 0)", x, INDEX, () -> x.variable(c, 0));
      Check.throwing("variable(" + c + ", 4)", x, INDEX, () -> x.variable(c, 4));
    }
    for (int c = 0; c < 16; c++) {
      Check.equal("variable(" + c + ", 3)", x.variable(c, 3), 7);
    }
  }

  private static void variableUnfinished() {
    whileUnfinished("variable(0, 0)", x -> x.variable(0, 0));
    whileUnfinished("variable(15, 3)", x -> x.variable(15, 3));
  }

  private static void variableOfError() {
    whileWrong("variable(15, 0)", "nothing", x -> x.variable(15, 0));
    VariantParser x = Make.parser("a=1; W0 ) D");
    Check.throwing("variable(1, 0) ahead of the error", x, MISSING, () -> x.variable(1, 0));
    Check.throwing("variable(1, 4)", x, MISSING, () -> x.variable(1, 4));
    Check.equal("variable(0, 0) beside it", x.variable(0, 0), 1);
  }

  private static void variableOfNone() {
    VariantParser x = Make.parser("a=1;b=2;c=3;d=4;");
    int[] none = {-1, 4, 5, 15, 16, 'a', MIN, MAX};
    for (int variable : none) {
      Check.throwing("variable(0, " + variable + ")", x, ARGUMENT, () -> x.variable(0, variable));
      Check.throwing("variable(15, " + variable + ")", x, ARGUMENT, () -> x.variable(15, variable));
    }
    for (int variable = 0; variable < 4; variable++) {
      Check.equal("variable(0, " + variable + ")", x.variable(0, variable), variable + 1);
    }
  }

  // ---- promise 29

  private static void behavioursOfErrors() {
    Check.equal("behaviours() of errors alone", Make.parser(")").behaviours(), 0);
    Check.equal("behaviours() of errors at the end", Make.parser("!1").behaviours(), 0);
    Check.equal("behaviours() without 15", Make.parser("!1; W0W1W2W3 ) DDDD").behaviours(), 1);
    Check.equal("behaviours() of 15 alone",
        Make.parser("W0W1W2W3 O)D O)D O)D O)D").behaviours(), 1);
    Check.equal("behaviours() of 0 alone", Make.parser("V0V1V2V3 O)D O)D O)D O)D").behaviours(), 1);
    Check.equal("behaviours() beside errors", Make.parser("W0 !1; D W1 ! D").behaviours(), 2);
    VariantParser x = Make.parser("W0 !1; D W1 !2; D");
    Check.equal("behaviours() of 4", x.behaviours(), 4);
    x.replace(7, '!');
    Check.equal("behaviours() behind replace()", x.behaviours(), 2);
  }

  private static void behaviours() {
    Check.equal("behaviours() of no items", new VariantParser().behaviours(), 1);
    Check.equal("behaviours() without !", Make.parser("W0 a=1; D").behaviours(), 1);
    Check.equal("behaviours() of one and none", Make.parser("W0 !0; D").behaviours(), 2);
    Check.equal("behaviours() of one other", Make.parser("!1; W0W1W2W3 !1; DDDD").behaviours(), 2);
    Check.equal("behaviours() of other texts", Make.parser("!W0 1+1 O 2 D;").behaviours(), 1);
    Check.equal("behaviours() of other values", Make.parser("!W0 1 O 2 D;").behaviours(), 2);
    Check.equal("behaviours() of signs", Make.parser("!W0 - D 1;").behaviours(), 2);
    Check.equal("behaviours() of another order",
        Make.parser("W0 !1;!2; O !2;!1; D").behaviours(), 2);
    Check.equal("behaviours() of the same set",
        Make.parser("W0 !1;!1;!2; O !1;!2;!2; D").behaviours(), 2);
    Check.equal("behaviours() of beginnings", Make.parser("!1; W0 !2; D").behaviours(), 2);
    Check.equal("behaviours() of endings", Make.parser("W0 !2; D !1;").behaviours(), 2);
    Check.equal("behaviours() that wrap around",
        Make.parser("a=8*8*8*8*8*8*8*8*8*8*2; W0 !a+a; O !0; D").behaviours(), 1);
    Check.equal("behaviours() of 16",
        Make.parser("W0 a=1; D W1 b=2; D W2 c=4; D W3 d=8; D !a+b+c+d;").behaviours(), 16);
    Check.equal("behaviours() of 8",
        Make.parser("W0 a=1; D W1 b=2; D W2 c=4; D W3 d=8; D !a+b+c;").behaviours(), 8);
  }

  private static void behavioursUnfinished() {
    whileUnfinished("behaviours()", VariantParser::behaviours);
  }

  // ---- promise 30

  private static long mix(long start, long... numbers) {
    long d = start;
    for (long x : numbers) {
      d = d * 31 + x;
    }
    return d;
  }

  private static long mix8(long start, long... numbers) {
    long d = start;
    for (int k = 0; k < 8; k++) {
      d = mix(d, numbers);
    }
    return d;
  }

  private static long mix16(long start, long... numbers) {
    return mix8(mix8(start, numbers), numbers);
  }

  private static void digestOfNone() {
    VariantParser x = new VariantParser();
    long want = mix16(mix(139, 0), -1, 0);
    Check.equal("digest() of no items", x.digest(), want);
    x.write('1');
    x.drop();
    Check.equal("digest() of none left", x.digest(), want);
    Check.equal("digest() of a WHEN alone", Make.parser("W0").digest(), mix(139, 1, 1, ALL));
  }

  private static void digestOfItems() {
    long source = mix(139, 7, 7, ALL, '?', 65280, 6, 65280, 9, 0, 16, 65280, 17, 65280, 14, 65280);
    Check.equal("digest() of each kind", Make.parser("W3 ? V3 S0 O D C3").digest(), source);
    VariantParser full = Make.parser("W0" + Make.repeat("1", 79));
    long want = mix(139, 80, 1, ALL);
    for (int k = 0; k < 79; k++) {
      want = mix(want, '1', 43690);
    }
    Check.equal("digest() of 80", full.digest(), want);
  }

  private static void digestUnfinished() {
    VariantParser x = Make.parser("!7; W0");
    Check.equal("digest() of an unfinished WHEN", x.digest(),
        mix(139, 4, '!', ALL, '7', ALL, ';', ALL, 1, ALL));
    x.otherwise();
    Check.equal("digest() behind an OTHERWISE", x.digest(),
        mix(139, 5, '!', ALL, '7', ALL, ';', ALL, 1, ALL, 16, ALL));
    x.done();
    Check.equal("digest() behind a DONE", x.digest(),
        mix16(mix(139, 6, '!', ALL, '7', ALL, ';', ALL, 1, ALL, 16, ALL, 17, ALL), -1, 1, 7));
    x.drop();
    Check.equal("digest() behind drop()", x.digest(),
        mix(139, 5, '!', ALL, '7', ALL, ';', ALL, 1, ALL, 16, ALL));
  }

  private static void digestOfErrors() {
    Check.equal("digest() of an error at 0", Make.parser(")").digest(),
        mix16(mix(139, 1, ')', ALL), 0));
    Check.equal("digest() of an error at the end", Make.parser("!").digest(),
        mix16(mix(139, 1, '!', ALL), 1));
    VariantParser x = Make.parser("W0 ) D");
    Check.equal("digest() of an error in every other one", x.digest(),
        mix8(mix(139, 3, 1, ALL, ')', 43690, 17, ALL), -1, 0, 1));
  }

  private static void digestOfValues() {
    Check.equal("digest() of no values", Make.parser("{}").digest(),
        mix16(mix(139, 2, '{', ALL, '}', ALL), -1, 0));
    Check.equal("digest() of a value of 0", Make.parser("!0;").digest(),
        mix16(mix(139, 3, '!', ALL, '0', ALL, ';', ALL), -1, 1, 0));
    Check.equal("digest() of a negative value", Make.parser("!-1;").digest(),
        mix16(mix(139, 4, '!', ALL, '-', ALL, '1', ALL, ';', ALL), -1, 1, -1));
    long[] values = new long[28];
    java.util.Arrays.fill(values, 1);
    values[0] = -1;
    values[1] = 26;
    long want = mix(139, 78);
    for (int k = 0; k < 26; k++) {
      want = mix(want, '!', ALL, '1', ALL, ';', ALL);
    }
    Check.equal("digest() of 26 values", Make.parser(LONG).digest(), mix16(want, values));
  }

  private static void digestWraps() {
    BigInteger few = exactly(BigInteger.valueOf(139), 4, '1', ALL, '1', ALL, 7, ALL, '1', 65280);
    Check.equal("digest() of 4", Make.parser("11 W3 1").digest(), few.longValueExact());
    int negative = 0;
    for (int count = 1; count <= 80; count++) {
      BigInteger exact = exactly(BigInteger.valueOf(139), count);
      for (int k = 0; k < count; k++) {
        exact = exactly(exact, '1', ALL);
      }
      exact = exactly(exact, 0, 0, 0, 0, 0, 0, 0, 0, 0, 0, 0, 0, 0, 0, 0, 0);
      Check.equal("digest() of " + count, Make.tokens(count).digest(), exact.longValue());
      negative += exact.longValue() < 0 ? 1 : 0;
    }
    if (negative == 0 || negative == 80) {
      Check.fail("digest() of all has the same sign");
    }
  }

  private static BigInteger exactly(BigInteger start, long... numbers) {
    BigInteger d = start;
    for (long x : numbers) {
      d = d.multiply(BigInteger.valueOf(31)).add(BigInteger.valueOf(x));
    }
    return d;
  }
}
