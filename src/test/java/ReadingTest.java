/** Promises 19 to 25: reading. */
public final class ReadingTest {
  private static final Class<?> INDEX = IndexOutOfBoundsException.class;
  private static final Class<?> STATE = IllegalStateException.class;

  private ReadingTest() {}

  public static void main(String[] args) {
    wellFormed();
    errorsAtTokens();
    errorsAtTheEnd();
    errorOfConfigurations();
    wrong();
    firstError();
    groupsOfOneText();
    groupsOfSeveral();
    groupsCompareWholeStacks();
    work();
    gain();
    stack();
    deepStacks();
    unfinished();
    Check.end();
  }

  private static void errors(String notation, int want) {
    VariantParser x = Make.parser(notation);
    for (int c = 0; c < 16; c++) {
      Check.equal(notation + ": error(" + c + ")", x.error(c), want);
    }
    Check.equal(notation + ": wrong()", x.wrong(), want < 0 ? 0 : 65535);
    Check.equal(notation + ": firstError()", x.firstError(), want);
  }

  private static void wellFormed() {
    String[] texts = {"", "a=1;", "b=c;", "d=-5;", "{}", "{{}}{}", "{a=1;b=2;}", "!1;", "?1a=1;",
        "?a!1;:!2;", "?1?2!1;:!2;:!3;", "?1{}:{}", "a=1+2-3*4;", "a=(1);", "a=((b+1)*(c-2));",
        "a=--1;", "a=1--1;", "a=1*-b;", "!-(1);", "?(1)!1;", "?1-1!1;", "!0;!9;", "{?1{!1;}:!2;}"};
    for (String text : texts) {
      errors(text, -1);
    }
  }

  private static void errorsAtTokens() {
    errors("1", 0);
    errors("=", 0);
    errors("}", 0);
    errors(")", 0);
    errors(":", 0);
    errors(";", 0);
    errors("(", 0);
    errors("-", 0);
    errors("a1", 1);
    errors("ab", 1);
    errors("a==", 2);
    errors("a=;", 2);
    errors("a=+1;", 2);
    errors("a=*1;", 2);
    errors("a=12;", 3);
    errors("a=1b;", 3);
    errors("a=1)", 3);
    errors("a=();", 3);
    errors("a=(1;", 4);
    errors("a=1+;", 4);
    errors("a=1+*2;", 4);
    errors("a=1**2;", 4);
    errors("a=1;;", 4);
    errors("a=1;:", 4);
    errors("{a=1;)", 5);
    errors("{}}", 2);
    errors("{:", 1);
    errors("?1;", 2);
    errors("?1}", 2);
    errors("?1:", 2);
    errors("?!1;", 1);
    errors("?1!1;:}", 6);
    errors("?1!1;:!2;:!3;", 9);
    errors("!;", 1);
    errors("!1:", 2);
    errors("!a=1;", 2);
    errors("!(1=2);", 3);
  }

  private static void errorsAtTheEnd() {
    String[] texts = {"a", "a=", "a=1", "a=-", "a=(", "a=(1", "a=(1)", "a=1+", "a=1*", "{", "{a=1;",
        "{{}", "?", "?1", "?1!1", "?1!1;:", "!", "!1", "{?1!1;"};
    for (String text : texts) {
      errors(text, text.length());
    }
    errors("S0 a=1 W0 O D", 7);
    errors(Make.repeat("!1;", 26) + "!1", 80);
  }

  private static void errorOfConfigurations() {
    VariantParser x = Make.parser("a=W0 1 O 2 D W1 3 D ; V0 ) D W2 { D");
    for (int c = 0; c < 16; c++) {
      boolean is0 = (c & 1) != 0;
      boolean is1 = (c & 2) != 0;
      boolean is2 = (c & 4) != 0;
      int want = is1 ? 8 : !is0 ? 12 : is2 ? 17 : -1;
      Check.equal("error(" + c + ")", x.error(c), want);
    }
    Check.throwing("error(16)", x, INDEX, () -> x.error(16));
    Check.throwing("error(-1)", x, INDEX, () -> x.error(-1));
    x.replace(8, ';');
    Check.equal("error(2) behind replace()", x.error(2), 10);
    x.drop();
    Check.throwing("error(0) behind drop()", x, STATE, () -> x.error(0));
  }

  private static void wrong() {
    VariantParser x = Make.parser("a=1 W3 ; O : D");
    Check.equal("wrong() of feature 3 off", x.wrong(), 255);
    x.drop();
    x.drop();
    x.write(';');
    x.done();
    Check.equal("wrong() when mended", x.wrong(), 0);
    Check.equal("wrong() of one", Make.parser("W0 W1 W2 W3 ; DDDD").wrong(), 32768);
    Check.equal("wrong() of the other", Make.parser("V0 V1 V2 V3 ; DDDD").wrong(), 1);
    Check.equal("wrong() at the end", Make.parser("W1 { D").wrong(), 52428);
  }

  private static void firstError() {
    Check.equal("firstError() of none", Make.parser("W0 a=1; D").firstError(), -1);
    Check.equal("firstError() of two", Make.parser("!1; W1 V0 ) D D W0 ; D").firstError(), 5);
    Check.equal("firstError() of later configurations",
        Make.parser("V3 a=1; D W3 : D V3 : D").firstError(), 7);
    Check.equal("firstError() at the end", Make.parser("W0 { D").firstError(), 3);
    Check.equal("firstError() ahead of the end", Make.parser("W0 { D V0 ) D").firstError(), 4);
    Check.equal("firstError() of configuration 0",
        Make.parser("V0 V1 V2 V3 ; DDDD").firstError(), 4);
    Check.equal("firstError() at 0", Make.parser(")").firstError(), 0);
  }

  private static void groupsAre(String notation, int... want) {
    VariantParser x = Make.parser(notation);
    Check.equal(notation + ": size()", x.size(), want.length);
    int sum = 0;
    for (int i = 0; i < want.length && i < x.size(); i++) {
      Check.equal(notation + ": groups(" + i + ")", x.groups(i), want[i]);
      sum += want[i];
    }
    Check.equal(notation + ": work()", x.work(), sum);
  }

  private static void groupsOfOneText() {
    groupsAre("a=1;", 1, 1, 1, 1);
    groupsAre("a=1;;b", 1, 1, 1, 1, 1, 0);
    groupsAre("S0a=1;C3", 0, 1, 1, 1, 1, 0);
    groupsAre("S0 V0 a D", 0, 0, 0, 0);
    VariantParser y = Make.parser("a=1;");
    Check.equal("groups(3) of a token", y.groups(3), 1);
    y.drop();
    y.set(0, true);
    Check.equal("groups(3) of the SET in its place", y.groups(3), 0);
    Check.equal("work() behind drop()", y.work(), 3);
    VariantParser x = Make.parser("a W0 1");
    Check.throwing("groups(3)", x, INDEX, () -> x.groups(3));
    Check.throwing("groups(-1)", x, INDEX, () -> x.groups(-1));
    Check.throwing("groups(0) when unfinished", x, STATE, () -> x.groups(0));
    Check.throwing("groups(1) when unfinished", x, STATE, () -> x.groups(1));
  }

  private static void groupsOfSeveral() {
    groupsAre("a=W0 1 O 2 D ;", 1, 1, 0, 1, 0, 1, 0, 1);
    groupsAre("a=W0 1+ D 2 ;", 1, 1, 0, 1, 1, 0, 2, 1);
    groupsAre("a=W0 1* D W1 2- D 3 ;", 1, 1, 0, 1, 1, 0, 0, 2, 1, 0, 3, 1);
    groupsAre("W0 ) D a=1;", 0, 1, 0, 1, 1, 1, 1);
    groupsAre("W0 { D W1 { D W2 { D W3 { D }",
        0, 1, 0, 0, 2, 0, 0, 3, 0, 0, 4, 0, 5);
    groupsAre("W0 ; D W0 ; D", 0, 1, 0, 0, 0, 0);
    groupsAre("W0 ; O { D W0 a D }", 0, 1, 0, 1, 0, 0, 0, 0, 1);
  }

  private static void groupsCompareWholeStacks() {
    groupsAre("W0 {a=( O ?( D 1 )", 0, 1, 1, 1, 1, 0, 1, 1, 0, 2, 2);
    groupsAre("W0 ?1 O {} D b", 0, 1, 1, 0, 1, 1, 0, 2);
    groupsAre("W0 {{{ O ?1?2 D W0 }}} D b", 0, 1, 1, 1, 0, 1, 1, 1, 1, 0, 0, 1, 1, 1, 0, 2);
    groupsAre("W0 {? O ?1 D 1", 0, 1, 1, 0, 1, 1, 0, 2);
    groupsAre("W0 {a= O ?1!  D 1", 0, 1, 1, 1, 0, 1, 1, 1, 0, 2);
  }

  private static void work() {
    Check.equal("work() when empty", new VariantParser().work(), 0);
    Check.equal("work() of directives", Make.parser("W0 S1 O D").work(), 0);
    Check.equal("work() of 80", Make.parser(Make.repeat("1", 80)).work(), 1);
    Check.equal("work() of 3", Make.parser("!1;").work(), 3);
  }

  private static void gain() {
    Check.equalDouble("gain() when empty", new VariantParser().gain(), 0.0);
    Check.equalDouble("gain() of dead tokens", Make.parser("S0 V0 a D").gain(), 0.0);
    Check.equalDouble("gain() of one text", Make.parser("!1;").gain(), 16.0);
    Check.equalDouble("gain() with an error", Make.parser("!1)222").gain(), 16.0);
    Check.equalDouble("gain() of an error at the end", Make.parser("!1").gain(), 16.0);
    Check.equalDouble("gain() of W0", Make.parser("W0 !1; D").gain(), 8.0);
    Check.equalDouble("gain() of one configuration",
        Make.parser("W0 W1 W2 W3 !1; D D D D").gain(), 1.0);
    Check.equalDouble("gain() of 2 groups", Make.parser("a=W0 1+ D 2 ;").gain(), 80.0 / 7.0);
    Check.equalDouble("gain() of an early error",
        Make.parser("W0 ) D a=1;").gain(), (8.0 + 8.0 * 4.0) / 5.0);
    VariantParser x = Make.parser("!1;");
    x.gain();
    x.replace(0, '1');
    Check.equalDouble("gain() behind replace()", x.gain(), 16.0);
    x.when(0, true);
    Check.throwing("gain() when unfinished", x, STATE, x::gain);
  }

  private static void stacks(String notation, int... want) {
    VariantParser x = Make.parser(notation);
    for (int k = 0; k < want.length; k++) {
      Check.equal(notation + ": stack(0, " + k + ")", x.stack(0, k), want[k]);
      Check.equal(notation + ": stack(15, " + k + ")", x.stack(15, k), want[k]);
    }
    Check.throwing(notation + ": stack behind", x, INDEX, () -> x.stack(0, want.length));
  }

  private static void stack() {
    stacks("a=1;b", 1, 4, 3, 4, 1);
    stacks("a=1+2*3;", 1, 4, 3, 4, 4, 4, 5, 4);
    stacks("a=--(1);", 1, 4, 3, 5, 5, 6, 7, 4);
    stacks("{!1;}{", 1, 3, 5, 6, 3, 1);
    stacks("?1!1;:!2;!", 1, 4, 5, 4, 5, 2, 2, 3, 4, 1);
    stacks("?1?1!1;:!2;:!3;", 1, 4, 5, 5, 6, 5, 6, 3, 3, 4, 5, 2, 2, 3, 4);
    stacks("1a", 1, -1);
    stacks("a=)1;", 1, 4, 3, -1, -1);
    VariantParser x = Make.parser("W0 { D W1 { D } W2 !1; D");
    Check.equal("stack(0, 0)", x.stack(0, 0), 1);
    Check.equal("stack(1, 1)", x.stack(1, 1), 3);
    Check.equal("stack(3, 2)", x.stack(3, 2), 5);
    Check.equal("stack(4, 1)", x.stack(4, 1), -1);
    Check.throwing("stack(0, 1)", x, INDEX, () -> x.stack(0, 1));
    Check.throwing("stack(0, -1)", x, INDEX, () -> x.stack(0, -1));
    Check.throwing("stack(16, 0)", x, INDEX, () -> x.stack(16, 0));
    Check.throwing("stack(-1, 0)", x, INDEX, () -> x.stack(-1, 0));
  }

  private static void deepStacks() {
    VariantParser x = Make.parser("!" + Make.repeat("(", 79));
    Check.equal("stack of 78 brackets", x.stack(0, 79), 3 + 3 * 78);
    Check.equal("error of 79 brackets", x.error(0), 80);
    VariantParser y = Make.parser(Make.repeat("?1", 40));
    Check.equal("stack of 40 choices", y.stack(0, 79), 4 + 39);
    Check.equal("error of 40 choices", y.error(0), 80);
    VariantParser z = Make.parser(Make.repeat("{", 40) + Make.repeat("}", 40));
    Check.equal("stack of 40 blocks", z.stack(0, 40), 81);
    Check.equal("error of 40 blocks", z.error(0), -1);
    VariantParser m = Make.parser("!" + Make.repeat("-", 77) + "1;");
    Check.equal("error of 77 signs", m.error(0), -1);
    Check.equal("stack of 77 signs", m.stack(0, 78), 5);
    VariantParser b = Make.parser("a=" + Make.repeat("(", 38) + "1" + Make.repeat(")", 38) + ";");
    Check.equal("error of 38 brackets", b.error(0), -1);
    Check.equal("stack of 38 brackets", b.stack(0, 40), 3 + 3 * 38);
  }

  private static void unfinished() {
    VariantParser x = Make.parser("!1; W0");
    Check.throwing("error(0)", x, STATE, () -> x.error(0));
    Check.throwing("error(16)", x, INDEX, () -> x.error(16));
    Check.throwing("wrong()", x, STATE, x::wrong);
    Check.throwing("firstError()", x, STATE, x::firstError);
    Check.throwing("groups(0)", x, STATE, () -> x.groups(0));
    Check.throwing("groups(4)", x, INDEX, () -> x.groups(4));
    Check.throwing("work()", x, STATE, x::work);
    Check.throwing("gain()", x, STATE, x::gain);
    Check.throwing("stack(0, 0)", x, STATE, () -> x.stack(0, 0));
    Check.throwing("stack(0, 3)", x, INDEX, () -> x.stack(0, 3));
    Check.throwing("stack(16, 0)", x, INDEX, () -> x.stack(16, 0));
    x.done();
    Check.equal("wrong() when finished", x.wrong(), 0);
  }
}
