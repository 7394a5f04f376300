/** Promises 19 to 25, reading: the sentences with an edge. */
public final class EdgesOfPromises19To25Test {
  private static final Class<?> INDEX = IndexOutOfBoundsException.class;
  private static final Class<?> STATE = IllegalStateException.class;
  private static final int ALL = 65535;
  private static final int MIN = Integer.MIN_VALUE;
  private static final int MAX = Integer.MAX_VALUE;
  /** 78 items. */
  private static final String LONG = Make.repeat("!1;", 26);
  private static final String[] UNFINISHED = {"!1; W0", "!1; W0 O", "!1; W0 O W1 D", "!1; W0 )",
      "!1; W0 W1 W2 W3 W0"};

  private EdgesOfPromises19To25Test() {}

  public static void main(String[] args) {
    Check.sentence("19: Returns the place of the error of its variant",
        EdgesOfPromises19To25Test::errorPlaces);
    Check.sentence("19: -1 if it has none", EdgesOfPromises19To25Test::errorOfNone);
    Check.sentence("19: if configuration is not 0 to 15",
        EdgesOfPromises19To25Test::errorOfNoConfiguration);
    Check.sentence("19: if a WHEN is not finished", EdgesOfPromises19To25Test::errorUnfinished);
    Check.sentence("20: the set of the configurations whose variants have an error",
        EdgesOfPromises19To25Test::wrong);
    Check.sentence("20: if a WHEN is not finished", EdgesOfPromises19To25Test::wrongUnfinished);
    Check.sentence("21: Returns the least place of an error",
        EdgesOfPromises19To25Test::firstErrorLeast);
    Check.sentence("21: -1 if no variant has one", EdgesOfPromises19To25Test::firstErrorOfNone);
    Check.sentence("21: if a WHEN is not finished",
        EdgesOfPromises19To25Test::firstErrorUnfinished);
    Check.sentence("22: Returns the number of groups at it", EdgesOfPromises19To25Test::groups);
    Check.sentence("22: 0 for a directive", EdgesOfPromises19To25Test::groupsOfDirectives);
    Check.sentence("22: if there is no such item", EdgesOfPromises19To25Test::groupsOfNoItem);
    Check.sentence("22: if a WHEN is not finished", EdgesOfPromises19To25Test::groupsUnfinished);
    Check.sentence("23: the sum of the numbers of groups of all items",
        EdgesOfPromises19To25Test::work);
    Check.sentence("23: if a WHEN is not finished", EdgesOfPromises19To25Test::workUnfinished);
    Check.sentence("24: for each variant those ahead of its error, and the one at its error, if there"
        + " is one", EdgesOfPromises19To25Test::gainOfErrors);
    Check.sentence("24: for all variants together, divided by work()",
        EdgesOfPromises19To25Test::gainOfAll);
    Check.sentence("24: 0 if work() is 0", EdgesOfPromises19To25Test::gainOfNoWork);
    Check.sentence("24: if a WHEN is not finished", EdgesOfPromises19To25Test::gainUnfinished);
    Check.sentence("25: how many symbols its stack has ahead of this token",
        EdgesOfPromises19To25Test::stack);
    Check.sentence("25: -1 if it had an error ahead of it",
        EdgesOfPromises19To25Test::stackBehindError);
    Check.sentence("25: if configuration is not 0 to 15",
        EdgesOfPromises19To25Test::stackOfNoConfiguration);
    Check.sentence("25: or there is no such index", EdgesOfPromises19To25Test::stackOfNoIndex);
    Check.sentence("25: if a WHEN is not finished", EdgesOfPromises19To25Test::stackUnfinished);
    Check.end();
  }

  // ---- promise 19

  private static void errorPlaces() {
    Check.equal("error(0) at item 0", Make.parser(")").error(0), 0);
    Check.equal("error(0) at item 1", Make.parser("S0 )").error(0), 1);
    Check.equal("error(0) at item 79", Make.parser(LONG + "!;").error(0), 79);
    Check.equal("error(0) at the end of 80", Make.parser(LONG + "!1").error(0), 80);
    Check.equal("error(0) at the end of 1", Make.parser("!").error(0), 1);
    Check.equal("error(0) at the end, behind directives", Make.parser("! S0 W1 D").error(0), 4);
    VariantParser x = Make.parser("W0 ) O W1 ) D D W2 ! D");
    int[] want = {-1, 1, 4, 1, 10, 1, 4, 1};
    for (int c = 0; c < 16; c++) {
      Check.equal("error(" + c + ")", x.error(c), want[c % 8]);
    }
  }

  private static void errorOfNone() {
    Check.equal("error(0) of no items", new VariantParser().error(0), -1);
    Check.equal("error(0) of no tokens", Make.parser("W0 ) D").error(0), -1);
    Check.equal("error(1) beside it", Make.parser("W0 ) D").error(1), 1);
    VariantParser x = Make.parser(LONG + "{}");
    Check.equal("error(0) of 80", x.error(0), -1);
    x.drop();
    Check.equal("error(0) of 79", x.error(0), 79);
    x.replace(78, ')');
    Check.equal("error(0) of a ) as the last", x.error(0), 78);
    x.drop();
    Check.equal("error(0) of 78", x.error(0), -1);
  }

  private static void errorOfNoConfiguration() {
    VariantParser x = Make.parser(")");
    int[] none = {-1, 16, 17, MIN, MAX};
    for (int c : none) {
      Check.throwing("error(" + c + ")", x, INDEX, () -> x.error(c));
    }
    for (int c = 0; c < 16; c++) {
      Check.equal("error(" + c + ")", x.error(c), 0);
    }
  }

  /** Refused while one of the WHENs is not finished, and answered behind the last DONE. */
  private static void whileUnfinished(String call, java.util.function.Consumer<VariantParser> run) {
    for (String notation : UNFINISHED) {
      VariantParser x = Make.parser(notation);
      while (x.unfinished() > 0) {
        Check.throwing(notation + ": " + call, x, STATE, () -> run.accept(x));
        x.done();
      }
      Check.equalText(notation + ": " + call + " when finished",
          Check.thrownBy(() -> run.accept(x)), "nothing");
      x.drop();
      Check.throwing(notation + ": " + call + " behind drop()", x, STATE, () -> run.accept(x));
    }
  }

  private static void errorUnfinished() {
    whileUnfinished("error(0)", x -> x.error(0));
    whileUnfinished("error(15)", x -> x.error(15));
  }

  // ---- promises 20 and 21

  private static void wrong() {
    Check.equal("wrong() of no items", new VariantParser().wrong(), 0);
    Check.equal("wrong() of none", Make.parser("!1;").wrong(), 0);
    Check.equal("wrong() of all", Make.parser(")").wrong(), ALL);
    Check.equal("wrong() of all, at the end", Make.parser("!").wrong(), ALL);
    Check.equal("wrong() of 0", Make.parser("V0 V1 V2 V3 ) DDDD").wrong(), 1);
    Check.equal("wrong() of 15", Make.parser("W0 W1 W2 W3 ) DDDD").wrong(), 32768);
    Check.equal("wrong() of 15, at the end", Make.parser("W0 W1 W2 W3 ! DDDD").wrong(), 32768);
    Check.equal("wrong() of all but 15", Make.parser("W0W1W2W3 O)D O)D O)D O)D").wrong(), 32767);
    Check.equal("wrong() at two places", Make.parser("W0 ) O W1 { D D").wrong(), 43690 | 52428);
  }

  private static void wrongUnfinished() {
    whileUnfinished("wrong()", VariantParser::wrong);
  }

  private static void firstErrorLeast() {
    Check.equal("firstError() at item 0", Make.parser(")").firstError(), 0);
    Check.equal("firstError() at the end of 80", Make.parser(LONG + "!1").firstError(), 80);
    Check.equal("firstError() of 15 alone", Make.parser("W0W1W2W3 ) DDDD").firstError(), 4);
    Check.equal("firstError() of 0 alone", Make.parser("V0V1V2V3 ) DDDD").firstError(), 4);
    Check.equal("firstError() of two", Make.parser("W0 ) O ) D").firstError(), 1);
    Check.equal("firstError() of two, the later one first",
        Make.parser("V0 ) O ) D").firstError(), 1);
    Check.equal("firstError() ahead of the end", Make.parser("W0 ! O ) D").firstError(), 3);
    Check.equal("firstError() at the end alone", Make.parser("W0 ! O !1; D").firstError(), 7);
  }

  private static void firstErrorOfNone() {
    Check.equal("firstError() of no items", new VariantParser().firstError(), -1);
    Check.equal("firstError() of 80", Make.parser(LONG + "{}").firstError(), -1);
    Check.equal("firstError() of dead tokens", Make.parser("S0 V0 ) D").firstError(), -1);
  }

  private static void firstErrorUnfinished() {
    whileUnfinished("firstError()", VariantParser::firstError);
  }

  // ---- promises 22 and 23

  private static void groups() {
    VariantParser x = Make.parser("W0 { D W1 {{ D W2 {{{{ D W3 {{{{{{{{ D {");
    Check.equal("groups() of one", x.groups(1), 1);
    Check.equal("groups() of two", x.groups(4), 2);
    Check.equal("groups() of four", x.groups(8), 4);
    Check.equal("groups() of eight", x.groups(14), 8);
    Check.equal("groups() of 16", x.groups(23), 16);
    Check.equal("groups() of a dead token", Make.parser("S0 V0 ! D").groups(2), 0);
    Check.equal("groups() at the error", Make.parser("!)1").groups(1), 1);
    Check.equal("groups() behind the error", Make.parser("!)1").groups(2), 0);
    Check.equal("groups() of one of 16", Make.parser("W0W1W2W3 ! DDDD").groups(4), 1);
    VariantParser full = Make.parser(LONG + "{}");
    Check.equal("groups(0) of 80", full.groups(0), 1);
    Check.equal("groups(79) of 80", full.groups(79), 1);
  }

  private static void groupsOfDirectives() {
    VariantParser x = Make.parser("W0 O D V3 D S0 C3");
    for (int i = 0; i < 7; i++) {
      Check.equal("groups(" + i + ")", x.groups(i), 0);
    }
    VariantParser y = Make.parser("!1;");
    Check.equal("groups(2) of a token", y.groups(2), 1);
    y.drop();
    y.set(0, true);
    Check.equal("groups(2) of a SET in its place", y.groups(2), 0);
  }

  private static void groupsOfNoItem() {
    VariantParser x = Make.parser("! S0");
    int[] none = {-1, 2, 3, 79, 80, MIN, MAX};
    for (int item : none) {
      Check.throwing("groups(" + item + ")", x, INDEX, () -> x.groups(item));
    }
    Check.equal("groups(0)", x.groups(0), 1);
    Check.equal("groups(1)", x.groups(1), 0);
    VariantParser full = Make.parser(LONG + "{}");
    Check.throwing("groups(80) of 80", full, INDEX, () -> full.groups(80));
    full.drop();
    Check.throwing("groups(79) behind drop()", full, INDEX, () -> full.groups(79));
  }

  private static void groupsUnfinished() {
    whileUnfinished("groups(0)", x -> x.groups(0));
    whileUnfinished("groups(3)", x -> x.groups(3));
  }

  private static void work() {
    Check.equal("work() of no items", new VariantParser().work(), 0);
    Check.equal("work() of directives", Make.parser("W0 O D S0").work(), 0);
    Check.equal("work() of dead tokens", Make.parser("S0 V0 !1; D").work(), 0);
    Check.equal("work() of one token", Make.parser("!").work(), 1);
    Check.equal("work() of an error at the first", Make.tokens(80).work(), 1);
    Check.equal("work() of 80", Make.parser(LONG + "{}").work(), 80);
    Check.equal("work() of one of 16", Make.parser("W0W1W2W3 !1; DDDD").work(), 3);
    Check.equal("work() of up to 16 groups",
        Make.parser("W0 { D W1 {{ D W2 {{{{ D W3 {{{{{{{{ D {").work(), 1 + 4 + 16 + 64 + 16);
    VariantParser x = Make.parser("!1;");
    x.drop();
    Check.equal("work() behind drop()", x.work(), 2);
  }

  private static void workUnfinished() {
    whileUnfinished("work()", VariantParser::work);
  }

  // ---- promise 24

  private static void gainOfErrors() {
    Check.equalDouble("gain() of an error at the first", Make.tokens(80).gain(), 16.0);
    Check.equalDouble("gain() of an error at the end", Make.parser("!1").gain(), 16.0);
    Check.equalDouble("gain() of an error at a token",
        Make.parser("W0 ) D !1;").gain(), (8 + 8 * 3) / 4.0);
    Check.equalDouble("gain() of an error behind a token",
        Make.parser("W0 !)1; D !1;").gain(), (8 * 2 + 8 * 3) / 5.0);
    Check.equalDouble("gain() of an error at the end of some",
        Make.parser("!1; W0 !1 D").gain(), (16 * 3 + 8 * 2) / 5.0);
    Check.equalDouble("gain() of an error in one", Make.parser("W0W1W2W3 ) DDDD !1;").gain(),
        (1 + 15 * 3) / 4.0);
  }

  private static void gainOfAll() {
    Check.equalDouble("gain() of one token", Make.parser("!").gain(), 16.0);
    Check.equalDouble("gain() of 80", Make.parser(LONG + "{}").gain(), 16.0);
    Check.equalDouble("gain() of one of 16", Make.parser("W0W1W2W3 !1; DDDD").gain(), 1.0);
    Check.equalDouble("gain() of two of 16", Make.parser("W0W1W2 !1; DDD").gain(), 2.0);
    Check.equalDouble("gain() of half and half", Make.parser("W0 !1; O !1; D").gain(), 8.0);
    Check.equalDouble("gain() of up to 16 groups",
        Make.parser("W0 { D W1 {{ D W2 {{{{ D W3 {{{{{{{{ D {").gain(), (8 * 15 + 16) / 101.0);
    Check.equalDouble("gain() that is no whole number", Make.parser("!W0 1 O 2 D;").gain(), 12.0);
    Check.equalDouble("gain() that is not finite in twos",
        Make.parser("!W0 1+ D 2;").gain(), (16 * 3 + 8 * 2) / 6.0);
  }

  private static void gainOfNoWork() {
    Check.equalDouble("gain() of no items", new VariantParser().gain(), 0.0);
    Check.equalDouble("gain() of directives", Make.parser("W0 O D S0").gain(), 0.0);
    Check.equalDouble("gain() of dead tokens", Make.parser("S0 V0 !1; D").gain(), 0.0);
    VariantParser x = Make.parser("!");
    Check.equalDouble("gain() of one token", x.gain(), 16.0);
    x.drop();
    Check.equalDouble("gain() of none left", x.gain(), 0.0);
  }

  private static void gainUnfinished() {
    whileUnfinished("gain()", VariantParser::gain);
  }

  // ---- promise 25

  private static void stacks(String notation, int... want) {
    VariantParser x = Make.parser(notation);
    for (int k = 0; k < want.length; k++) {
      Check.equal(notation + ": stack(0, " + k + ")", x.stack(0, k), want[k]);
      Check.equal(notation + ": stack(15, " + k + ")", x.stack(15, k), want[k]);
    }
  }

  private static void stack() {
    stacks("!1;!", 1, 3, 4, 1);
    stacks("a=1;{", 1, 4, 3, 4, 1);
    stacks("{}{", 1, 3, 1);
    stacks("?1!1;:!1;!", 1, 4, 5, 4, 5, 2, 2, 3, 4, 1);
    stacks("!(1)*-1;", 1, 3, 6, 7, 4, 5, 5, 4);
    stacks("!1+1;", 1, 3, 4, 4, 4);
    VariantParser empty = Make.parser("!1;)");
    Check.equal("stack(0, 3) of P alone, at the error", empty.stack(0, 3), 1);
    VariantParser deep = Make.parser("!" + Make.repeat("(", 79));
    Check.equal("stack(0, 79) of 78 brackets", deep.stack(0, 79), 237);
    VariantParser blocks = Make.parser(Make.repeat("{", 80));
    Check.equal("stack(15, 79) of 79 blocks", blocks.stack(15, 79), 159);
    VariantParser x = Make.parser("W0 { D W1 { D }");
    Check.equal("stack(0, 0)", x.stack(0, 0), 1);
    Check.equal("stack(1, 1)", x.stack(1, 1), 3);
    Check.equal("stack(3, 2)", x.stack(3, 2), 5);
  }

  private static void stackBehindError() {
    stacks(")", 1);
    stacks(")!1;", 1, -1, -1, -1);
    stacks("!)1;", 1, 3, -1, -1);
    stacks("!1}!", 1, 3, 4, -1);
    stacks("!1", 1, 3);
    VariantParser x = Make.tokens(80);
    Check.equal("stack(0, 0) of 80", x.stack(0, 0), 1);
    Check.equal("stack(0, 1) of 80", x.stack(0, 1), -1);
    Check.equal("stack(0, 79) of 80", x.stack(0, 79), -1);
    VariantParser y = Make.parser("W0 ) D !1;");
    Check.equal("stack(1, 1) behind the error", y.stack(1, 1), -1);
    Check.equal("stack(0, 1) beside it", y.stack(0, 1), 3);
    VariantParser z = Make.parser("!)1");
    Check.equal("stack(0, 2) behind the error", z.stack(0, 2), -1);
    z.replace(1, '(');
    Check.equal("stack(0, 2) without it", z.stack(0, 2), 6);
    z.replace(0, ')');
    Check.equal("stack(0, 2) behind another", z.stack(0, 2), -1);
  }

  private static void stackOfNoConfiguration() {
    VariantParser x = Make.parser("!");
    int[] none = {-1, 16, 17, MIN, MAX};
    for (int c : none) {
      Check.throwing("stack(" + c + ", 0)", x, INDEX, () -> x.stack(c, 0));
      Check.throwing("stack(" + c + ", 1)", x, INDEX, () -> x.stack(c, 1));
    }
    for (int c = 0; c < 16; c++) {
      Check.equal("stack(" + c + ", 0)", x.stack(c, 0), 1);
    }
  }

  private static void stackOfNoIndex() {
    VariantParser x = Make.parser("! W0 1; D");
    int[] none = {-1, 3, 4, 79, 80, MIN, MAX};
    for (int index : none) {
      Check.throwing("stack(1, " + index + ")", x, INDEX, () -> x.stack(1, index));
    }
    Check.equal("stack(1, 2)", x.stack(1, 2), 4);
    Check.equal("stack(0, 0)", x.stack(0, 0), 1);
    Check.throwing("stack(0, 1)", x, INDEX, () -> x.stack(0, 1));
    VariantParser wrong = Make.parser(")!");
    Check.equal("stack(0, 1) behind an error", wrong.stack(0, 1), -1);
    Check.throwing("stack(0, 2) behind an error", wrong, INDEX, () -> wrong.stack(0, 2));
    VariantParser empty = Make.parser("W0 ! D");
    Check.throwing("stack(0, 0) of no tokens", empty, INDEX, () -> empty.stack(0, 0));
    VariantParser full = Make.parser(LONG + "{}");
    Check.equal("stack(0, 79) of 80", full.stack(0, 79), 3);
    Check.throwing("stack(0, 80) of 80", full, INDEX, () -> full.stack(0, 80));
    full.drop();
    Check.throwing("stack(0, 79) behind drop()", full, INDEX, () -> full.stack(0, 79));
  }

  private static void stackUnfinished() {
    whileUnfinished("stack(0, 0)", x -> x.stack(0, 0));
    whileUnfinished("stack(15, 2)", x -> x.stack(15, 2));
  }
}
