/** 'Reading' of the description: the sentences with an edge. */
public final class EdgesOfReadingTest {
  private static final String TOKENS = "0123456789abcd+-*()=;{}?:!";
  private static final String STATEMENTS = "abcd{?!";
  private static final String FACTORS = "0123456789abcd(-";

  private EdgesOfReadingTest() {}

  public static void main(String[] args) {
    Check.sentence("at first it has P alone", EdgesOfReadingTest::firstStack);
    Check.sentence("For each token of the variant, and then for its end",
        EdgesOfReadingTest::endOfEach);
    Check.sentence("P by S P, if the token can begin S, otherwise by nothing",
        EdgesOfReadingTest::manyStatements);
    Check.sentence("S can begin with one of a to d, {, ? and !", EdgesOfReadingTest::beginnings);
    Check.sentence("S by n = E ; for one of a to d; by { P } for {; by ? E S R for ?; by ! E ; for !",
        EdgesOfReadingTest::statement);
    Check.sentence("R by : S for :, otherwise by nothing", EdgesOfReadingTest::colon);
    Check.sentence("Q by + T Q for +, by - T Q for -, otherwise by nothing",
        EdgesOfReadingTest::sum);
    Check.sentence("U by * F U for *, otherwise by nothing", EdgesOfReadingTest::product);
    Check.sentence("F by d for a digit, by n for one of a to d, by ( E ) for (, by - F for -",
        EdgesOfReadingTest::factor);
    Check.sentence("Where nothing is said of the token (for S and F; the end included), it is an error",
        EdgesOfReadingTest::nothingSaid);
    Check.sentence("the top of the stack must be this token, and is removed; otherwise it is an error",
        EdgesOfReadingTest::top);
    Check.sentence("also if the stack is empty", EdgesOfReadingTest::emptyStack);
    Check.sentence("At the end the stack must be empty; otherwise it is an error",
        EdgesOfReadingTest::stackAtTheEnd);
    Check.sentence("A variant with an error is read no further", EdgesOfReadingTest::noFurther);
    Check.sentence("the place of the error is the number of its item", EdgesOfReadingTest::place);
    Check.sentence("or the number of all items if it is at the end",
        EdgesOfReadingTest::placeAtTheEnd);
    Check.sentence("those configurations in which it is present", EdgesOfReadingTest::groupsPresent);
    Check.sentence("and that had no error ahead of it", EdgesOfReadingTest::groupsWithoutError);
    Check.sentence("two are in the same class if their stacks are the same ahead of it",
        EdgesOfReadingTest::groupsOfStacks);
    Check.end();
  }

  private static void error(String notation, int want) {
    VariantParser x = Make.parser(notation);
    Check.equal(notation + ": error(0)", x.error(0), want);
    Check.equal(notation + ": error(15)", x.error(15), want);
  }

  /** Behind the beginning, tokens of the first kind are read, and finish it if of the second. */
  private static void readBehind(String beginning, String read, String finishing) {
    for (int k = 0; k < TOKENS.length(); k++) {
      char token = TOKENS.charAt(k);
      int place = beginning.length();
      boolean isRead = read.indexOf(token) >= 0;
      boolean isFinishing = finishing.indexOf(token) >= 0;
      error(beginning + token, isFinishing ? -1 : isRead ? place + 1 : place);
    }
  }

  private static void firstStack() {
    for (int k = 0; k < TOKENS.length(); k++) {
      VariantParser x = Make.parser(TOKENS.substring(k, k + 1));
      Check.equal("stack(0, 0) ahead of " + TOKENS.charAt(k), x.stack(0, 0), 1);
    }
    VariantParser x = Make.parser("W0 { D V0 } D");
    Check.equal("stack(1, 0)", x.stack(1, 0), 1);
    Check.equal("stack(0, 0)", x.stack(0, 0), 1);
    error("", -1);
    error("{}{}", -1);
  }

  private static void endOfEach() {
    error("", -1);
    error("!1;", -1);
    error("!1", 2);
    VariantParser x = Make.parser("! W0 1 ; D W1 1 D W2 ; D");
    Check.equal("error(0) of !", x.error(0), 11);
    Check.equal("error(1) of !1;", x.error(1), -1);
    Check.equal("error(2) of !1", x.error(2), 11);
    Check.equal("error(4) of !;", x.error(4), 9);
    Check.equal("error(6) of !1;", x.error(6), -1);
  }

  private static void manyStatements() {
    error("!1;", -1);
    error("!1;!2;", -1);
    error(Make.repeat("!1;", 26) + "{}", -1);
    error("{}", -1);
    error("{!1;}", -1);
    error("{!1;!2;}", -1);
    readBehind("!1;", STATEMENTS, "");
    readBehind("{", STATEMENTS, "}");
    readBehind("{!1;", STATEMENTS, "}");
  }

  private static void beginnings() {
    readBehind("", STATEMENTS, "");
  }

  private static void statement() {
    for (char name = 'a'; name <= 'd'; name++) {
      readBehind("" + name, "=", "");
      readBehind(name + "=", FACTORS, "");
      readBehind(name + "=1", "+-*", ";");
    }
    readBehind("{", STATEMENTS, "}");
    readBehind("?", FACTORS, "");
    readBehind("?1", STATEMENTS + "+-*", "");
    readBehind("?1{}", STATEMENTS + ":", "");
    readBehind("!", FACTORS, "");
    readBehind("!1", "+-*", ";");
  }

  private static void colon() {
    error("?1!1;", -1);
    error("?1!1;:!2;", -1);
    readBehind("?1!1;", STATEMENTS + ":", "");
    readBehind("?1!1;:", STATEMENTS, "");
    readBehind("?1!1;:!2;", STATEMENTS, "");
    readBehind("?1?1!1;:!2;", STATEMENTS + ":", "");
    readBehind("?1?1!1;:!2;:!3;", STATEMENTS, "");
    readBehind("{?1!1;", STATEMENTS + ":", "}");
  }

  private static void sum() {
    readBehind("!1+", FACTORS, "");
    readBehind("!1-", FACTORS, "");
    readBehind("!1+2", "+-*", ";");
    readBehind("!1-2", "+-*", ";");
    readBehind("!(1", "+-*)", "");
  }

  private static void product() {
    readBehind("!1*", FACTORS, "");
    readBehind("!1*2", "+-*", ";");
    readBehind("!(1*2", "+-*)", "");
  }

  private static void factor() {
    for (int digit = 0; digit <= 9; digit++) {
      readBehind("!" + digit, "+-*", ";");
    }
    for (char name = 'a'; name <= 'd'; name++) {
      readBehind("!" + name, "+-*", ";");
    }
    readBehind("!(", FACTORS, "");
    readBehind("!(1", "+-*)", "");
    readBehind("!(1)", "+-*", ";");
    readBehind("!-", FACTORS, "");
    readBehind("!-1", "+-*", ";");
    readBehind("!--", FACTORS, "");
  }

  private static void nothingSaid() {
    error("?1", 2);
    error("?1!1;:", 6);
    error("?1;", 2);
    error("?1}", 2);
    error("?1:", 2);
    error("!", 1);
    error("a=", 2);
    error("a=-", 3);
    error("a=(", 3);
    error("a=1+", 4);
    error("a=1*", 4);
    error("!;", 1);
    error("!*", 1);
    error("!)", 1);
    error("!{", 1);
  }

  private static void top() {
    error("!1)", 2);
    error("!(1;", 3);
    error("!(1)", 4);
    error("!(1);", -1);
    error("a1", 1);
    error("aa", 1);
    error("a=1=", 3);
    error("{)", 1);
    error("!12", 2);
    error("!1a", 2);
    error("!a1", 2);
  }

  private static void emptyStack() {
    String[] noStatements = {"0", "9", "+", "-", "*", "(", ")", "=", ";", "}", ":"};
    for (String token : noStatements) {
      error(token, 0);
      error("!1;" + token, 3);
      error("{}" + token, 2);
    }
  }

  private static void stackAtTheEnd() {
    error("", -1);
    error("S0 W0 O D", -1);
    error("?1!1;", -1);
    error("?1{}:{}", -1);
    error("?1?1?1!1;", -1);
    error("a", 1);
    error("a=1", 3);
    error("{", 1);
    error("{{}", 3);
    error("!(1", 3);
    error("{?1!1;", 6);
    VariantParser x = Make.parser("W0 !1; D");
    Check.equal("error(0) of no tokens", x.error(0), -1);
    Check.equal("error(1) of !1;", x.error(1), -1);
  }

  private static void noFurther() {
    error(")", 0);
    error("))", 0);
    error(")!1;", 0);
    error("!1;)!1;)", 3);
    error("!)1;", 1);
    error("!;", 1);
    error("{)}", 1);
    VariantParser x = Make.parser("!)1;");
    Check.equal("stack(0, 1) at the error", x.stack(0, 1), 3);
    Check.equal("stack(0, 2) behind it", x.stack(0, 2), -1);
    Check.equal("groups(1) at the error", x.groups(1), 1);
    Check.equal("groups(2) behind it", x.groups(2), 0);
  }

  private static void place() {
    String most = Make.repeat("!1;", 26);
    error("}", 0);
    error("S0 W0 D }", 3);
    error("! S0 )", 2);
    error(most + "}", 78);
    error(most + "!}", 79);
    error(most + "!1", 80);
    VariantParser x = Make.parser("W0 ) O ) D");
    Check.equal("error(1)", x.error(1), 1);
    Check.equal("error(0)", x.error(0), 3);
  }

  private static void placeAtTheEnd() {
    error("!", 1);
    error("! S0", 2);
    error("S0 ! W0 O D", 5);
    error("! W0 V0 1; D D", 7);
    error(Make.repeat("!1;", 26) + "!1", 80);
    error(Make.repeat("!1;", 26) + "!", 79);
    error("!" + Make.repeat("S0", 79), 80);
    VariantParser x = Make.parser("W0 ! O !1; D !1;");
    Check.equal("error(1) at a token", x.error(1), 7);
    Check.equal("error(0)", x.error(0), -1);
    x.drop();
    x.drop();
    x.drop();
    Check.equal("error(1) at the end", x.error(1), 7);
    Check.equal("firstError() at the end", x.firstError(), 7);
  }

  private static void groups(String notation, int want) {
    VariantParser x = Make.parser(notation);
    Check.equal(notation + ": groups of the last", x.groups(x.size() - 1), want);
  }

  private static void groupsPresent() {
    groups("!", 1);
    VariantParser none = Make.parser("S0 V0 ! D");
    Check.equal("groups in no configuration", none.groups(2), 0);
    VariantParser one = Make.parser("W0 W1 W2 W3 ! DDDD");
    Check.equal("groups in one configuration", one.groups(4), 1);
    VariantParser half = Make.parser("W0 { D W0 a O b D");
    Check.equal("groups of those with a {", half.groups(4), 1);
    Check.equal("groups of those without", half.groups(6), 1);
  }

  private static void groupsWithoutError() {
    groups(")", 1);
    groups("))", 0);
    groups("!)", 1);
    groups("!)1", 0);
    groups("W0 ) D )", 1);
    groups("W0 { D W0 ) D }", 1);
    groups("W0 { D }", 2);
    groups("W0 { D }!", 1);
    groups("W0 W1 W2 W3 ) DDDD !", 1);
    groups("V0 ) O { D !", 1);
  }

  private static void groupsOfStacks() {
    groups("W0 !1; O !2; D !", 1);
    groups("W0 !1; O {} D !", 1);
    groups("W0 { D W0 } D !", 1);
    groups("W0 { D !", 2);
    groups("V0 { D !", 2);
    groups("W0 ?1!1; O !1; D !", 2);
    groups("W0 ?1!1; O !1; D !2", 1);
    groups("W0 ?1!1; O {?1{} D !", 2);
    groups("W0 {a=1 O ?1!1 D 2", 2);
    groups("W0 {{ O ?1 D !", 2);
    groups("W0 { O ?1?1!1; D !", 2);
    groups("W0 {a=1 O ?1?1!1 D +", 2);
    groups("W0 {a=1 O {!2 D +", 1);
    groups("W0 { D W1 {{ D W2 {{{{ D W3 {{{{{{{{ D {", 16);
    groups("W0 { D W1 { D W2 { D W3 { D {", 5);
  }
}
