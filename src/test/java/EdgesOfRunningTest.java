/** 'Running' of the description: the sentences with an edge. */
public final class EdgesOfRunningTest {
  private static final int MIN = Integer.MIN_VALUE;
  private static final int MAX = Integer.MAX_VALUE;
  /** 2 to the power of 30 as a product; times 2 it wraps around. */
  private static final String BIG = "8*8*8*8*8*8*8*8*8*8";

  private EdgesOfRunningTest() {}

  public static void main(String[] args) {
    Check.sentence("A variant without an error is a sequence of statements (S), which are executed in"
        + " order", EdgesOfRunningTest::sequence);
    Check.sentence("There are four variables, a to d", EdgesOfRunningTest::variables);
    Check.sentence("all 0 at first", EdgesOfRunningTest::allZero);
    Check.sentence("An assignment (n = E ;) gives its variable a value",
        EdgesOfRunningTest::assignment);
    Check.sentence("a block executes its statements", EdgesOfRunningTest::block);
    Check.sentence("? E S R executes its S if the value of E is not 0", EdgesOfRunningTest::choice);
    Check.sentence("otherwise what stands behind the colon, if anything",
        EdgesOfRunningTest::colon);
    Check.sentence("! E ; writes a value to the output", EdgesOfRunningTest::writing);
    Check.sentence("Q and U are evaluated from left to right", EdgesOfRunningTest::leftToRight);
    Check.sentence("* binds more tightly than + and -", EdgesOfRunningTest::binding);
    Check.sentence("a - ahead of an F changes its sign", EdgesOfRunningTest::sign);
    Check.sentence("All values are 32-bit integers", EdgesOfRunningTest::greatest);
    Check.sentence("which wrap around", EdgesOfRunningTest::wrapping);
    Check.end();
  }

  private static void writes(String notation, int... want) {
    VariantParser x = Make.parser(notation);
    for (int c = 0; c < 16; c += 15) {
      Check.equal(notation + ": outputs(" + c + ")", x.outputs(c), want.length);
      for (int k = 0; k < want.length && k < x.outputs(c); k++) {
        Check.equal(notation + ": output(" + c + ", " + k + ")", x.output(c, k), want[k]);
      }
    }
  }

  private static void sequence() {
    writes("");
    writes("!1;", 1);
    writes("!1;!2;", 1, 2);
    writes("!2;!1;", 2, 1);
    writes("!a;a=1;!a;a=2;!a;", 0, 1, 2);
    int[] ones = new int[26];
    java.util.Arrays.fill(ones, 1);
    writes(Make.repeat("!1;", 26), ones);
    writes(Make.repeat("!1;", 26) + "{}", ones);
    writes(Make.repeat("{}", 38) + "!1;", 1);
  }

  private static void variables() {
    VariantParser x = Make.parser("a=1;b=2;c=3;d=4;");
    for (int v = 0; v < 4; v++) {
      Check.equal("variable(0, " + v + ")", x.variable(0, v), v + 1);
    }
    writes("a=1;b=2;c=3;d=4;!a;!b;!c;!d;", 1, 2, 3, 4);
    writes("d=4;!a;!b;!c;!d;", 0, 0, 0, 4);
    writes("a=4;!a;!b;!c;!d;", 4, 0, 0, 0);
  }

  private static void allZero() {
    writes("!a;!b;!c;!d;", 0, 0, 0, 0);
    VariantParser x = new VariantParser();
    for (int v = 0; v < 4; v++) {
      Check.equal("variable(0, " + v + ") of no items", x.variable(0, v), 0);
    }
    x.write(Make.number("!a;a=5;"));
    Check.equal("output(0, 0)", x.output(0, 0), 0);
    Check.equal("variable(0, 0)", x.variable(0, 0), 5);
    x.replace(5, '6');
    Check.equal("output(0, 0) of another source", x.output(0, 0), 0);
    for (int k = 0; k < 4; k++) {
      x.drop();
    }
    Check.equal("variable(0, 0) without an assignment", x.variable(0, 0), 0);
    VariantParser y = Make.parser("W0 a=5; D !a;");
    Check.equal("output(1, 0)", y.output(1, 0), 5);
    Check.equal("output(2, 0) beside it", y.output(2, 0), 0);
  }

  private static void assignment() {
    writes("a=0;!a;", 0);
    writes("a=9;!a;", 9);
    writes("a=1;a=a;!a;", 1);
    writes("a=1;a=0;!a;", 0);
    writes("a=1;b=a;a=2;!b;", 1);
    writes("a=1;");
  }

  private static void block() {
    writes("{}");
    writes("{{}}");
    writes("{!1;}", 1);
    writes("{!1;!2;}!3;", 1, 2, 3);
    writes("{a=1;}!a;", 1);
    writes(Make.repeat("{", 40) + Make.repeat("}", 40));
    writes(Make.repeat("{", 38) + "!1;" + Make.repeat("}", 38), 1);
  }

  private static void choice() {
    writes("?0!1;");
    writes("?1!1;", 1);
    writes("?9!1;", 1);
    writes("?-1!1;", 1);
    writes("?-0!1;");
    writes("?1-1!1;");
    writes("?1-2!1;", 1);
    writes("?a!1;");
    writes("?" + BIG + "*2!1;", 1);
    writes("?" + BIG + "*4!1;");
    writes("?1{}");
    writes(Make.repeat("?1", 38) + "!1;", 1);
    writes("?0" + Make.repeat("?1", 37) + "!1;");
    writes(Make.repeat("?1", 37) + "?0!1;");
  }

  private static void colon() {
    writes("?0!1;:!2;", 2);
    writes("?1!1;:!2;", 1);
    writes("?-1!1;:!2;", 1);
    writes("?0!1;!2;", 2);
    writes("?1!1;!2;", 1, 2);
    writes("?0{}:{}");
    writes("?0{}:!2;", 2);
    writes("?1{}:!2;");
    writes("?0?0!1;:!2;");
    writes("?1?0!1;:!2;", 2);
    writes("?0?0!1;:!2;:!3;", 3);
    writes("?" + BIG + "*4!1;:!2;", 2);
  }

  private static void writing() {
    writes("!0;", 0);
    writes("!-1;", -1);
    writes("!1;!1;", 1, 1);
    writes("!1+1;", 2);
  }

  private static void leftToRight() {
    writes("!9-3-2;", 4);
    writes("!9-3+2;", 8);
    writes("!1-1-1-1;", -2);
    writes("!" + BIG + "*4*0;", 0);
    writes("!0*" + BIG + "*4;", 0);
  }

  private static void binding() {
    writes("!1+2*3;", 7);
    writes("!1*2+3;", 5);
    writes("!9-2*3;", 3);
    writes("!(1+2)*3;", 9);
    writes("!9-2*3*0-1;", 8);
  }

  private static void sign() {
    writes("!-0;", 0);
    writes("!-1;", -1);
    writes("!--1;", 1);
    writes("!-(1-2);", 1);
    writes("!-2*3+7;", 1);
    writes("!-2-3;", -5);
    writes("a=" + BIG + "*2;!-a;!--a;!-a-1;", MIN, MIN, MAX);
    writes("!" + Make.repeat("-", 77) + "1;", -1);
    writes("!" + Make.repeat("-", 76) + "1;", 1);
  }

  private static void greatest() {
    writes("a=" + BIG + ";!a;!a-1+a;!-a-a;", 1 << 30, MAX, MIN);
    writes("a=" + BIG + "*2-1;!a;!a-0;!-a;!-a-1;", MAX, MAX, -MAX, MIN);
  }

  private static void wrapping() {
    writes("a=" + BIG + ";!a+a;!a*2;!-a-a-1;", MIN, MIN, MAX);
    writes("a=" + BIG + "*2-1;!a+1;!a+a;!a*2;!a*a;!-a-2;", MIN, -2, -2, 1, MAX);
    writes("a=" + BIG + "*2;!a-1;!a+a;!a*a;!a*-1;!0-a;", MAX, 0, 0, MIN, MIN);
    writes("a=8*8*8*8*8*2;!a*a;!(a-1)*(a-1);!(a-1)*(a+1);", 0, -131071, -1);
    writes("a=" + BIG + "*4;!a;?a!1;:!2;", 0, 2);
  }
}
