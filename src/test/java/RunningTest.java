/** Promises 26 to 29: running. */
public final class RunningTest {
  private static final Class<?> INDEX = IndexOutOfBoundsException.class;
  private static final Class<?> STATE = IllegalStateException.class;
  private static final Class<?> MISSING = java.util.NoSuchElementException.class;
  private static final Class<?> ARGUMENT = IllegalArgumentException.class;

  private RunningTest() {}

  public static void main(String[] args) {
    values();
    statements();
    choices();
    wrapsAround();
    deepTexts();
    configurations();
    variable();
    exceptions();
    unfinished();
    behaviours();
    Check.end();
  }

  private static void writes(String notation, int... want) {
    VariantParser x = Make.parser(notation);
    for (int c = 0; c < 16; c += 5) {
      Check.equal(notation + ": outputs(" + c + ")", x.outputs(c), want.length);
      for (int k = 0; k < want.length; k++) {
        Check.equal(notation + ": output(" + c + ", " + k + ")", x.output(c, k), want[k]);
      }
    }
  }

  private static void values() {
    for (int digit = 0; digit <= 9; digit++) {
      writes("!" + digit + ";", digit);
    }
    writes("!a;!b;!c;!d;", 0, 0, 0, 0);
    writes("!1+2;", 3);
    writes("!1-2;", -1);
    writes("!9-3-2;", 4);
    writes("!9-3+2;", 8);
    writes("!9-(3-2);", 8);
    writes("!2+3*4;", 14);
    writes("!2*3+4;", 10);
    writes("!(2+3)*4;", 20);
    writes("!2*3*4;", 24);
    writes("!1-2*3-4*5+6;", -19);
    writes("!-3;", -3);
    writes("!--3;", 3);
    writes("!---3;", -3);
    writes("!-2*3;", -6);
    writes("!2*-3;", -6);
    writes("!-2-3;", -5);
    writes("!2--3;", 5);
    writes("!-(2-3);", 1);
    writes("!-(2-5)*-(3);", -9);
    writes("!((((7))));", 7);
  }

  private static void statements() {
    writes("");
    writes("a=5;");
    writes("{}");
    writes("a=5;!a;", 5);
    writes("a=5;b=a+1;c=b*2;d=c-a;!d;!c;!b;!a;", 7, 12, 6, 5);
    writes("a=1;a=a+1;a=a+a;!a;", 4);
    writes("!a;a=3;!a;a=4;!a;", 0, 3, 4);
    writes("{a=1;{!a;b=2;}!b;}!a+b;", 1, 2, 3);
    writes("!1;!2;!3;", 1, 2, 3);
  }

  private static void choices() {
    writes("?1!1;", 1);
    writes("?0!1;");
    writes("?-1!1;", 1);
    writes("?1!1;:!2;", 1);
    writes("?0!1;:!2;", 2);
    writes("?0!1;:!2;!3;", 2, 3);
    writes("?2-2!1;:!2;", 2);
    writes("?1{!1;!2;}:{!3;}", 1, 2);
    writes("?0{!1;!2;}:{!3;}", 3);
    writes("?1?0!1;:!2;", 2);
    writes("?0?0!1;:!2;");
    writes("?1?1!1;:!2;:!3;", 1);
    writes("?1?0!1;:!2;:!3;", 2);
    writes("?0?1!1;:!2;:!3;", 3);
    writes("?0{?1!1;}:!2;", 2);
    writes("?1{?0!1;}:!2;");
    writes("?0!1;:?0!2;:!3;", 3);
    writes("?0!1;:?1!2;:!3;", 2);
    writes("?1!1;:?1!2;:!3;", 1);
    writes("?0a=1;:b=2;!a;!b;", 0, 2);
    writes("?1a=1;:b=2;!a;!b;", 1, 0);
    writes("?0{a=1;?1b=2;:c=3;}!a+b+c;", 0);
    writes("a=1;?a{a=0;}:{a=5;}!a;", 0);
    writes("?0{}!1;", 1);
  }

  private static void wrapsAround() {
    String square = "a=a*a;";
    writes("a=8*8*8*8*8*8*8*8*8*8*2;!a;!a-1;!-a;!a*2;!a+a;", Integer.MIN_VALUE, Integer.MAX_VALUE,
        Integer.MIN_VALUE, 0, 0);
    writes("a=9;" + square + square + square + square + "!a;", (int) 1853020188851841L);
    writes("a=7;" + Make.repeat(square, 4) + "!-a;!a*9;", -(int) 33232930569601L,
        (int) (33232930569601L * 9));
    writes("a=8*8*8*8*8*8*8*8*8*8*4;?a!1;:!2;", 2);
  }

  private static void deepTexts() {
    writes("!" + Make.repeat("(", 38) + "7" + Make.repeat(")", 38) + ";", 7);
    writes("!" + Make.repeat("-", 77) + "7;", -7);
    writes("!" + Make.repeat("-(", 25) + "7" + Make.repeat(")", 25) + ";", -7);
    writes(Make.repeat("{", 38) + "!7;" + Make.repeat("}", 38), 7);
    writes(Make.repeat("{", 40) + Make.repeat("}", 40));
    writes(Make.repeat("?1", 38) + "!7;", 7);
    writes(Make.repeat("?1", 37) + "?0!7;");
    writes(Make.repeat("?1{", 19) + "!7;" + Make.repeat("}", 19), 7);
    writes(Make.repeat("?0{", 18) + "!7;}:!8;" + Make.repeat("}", 17));
    writes(Make.repeat("!1;", 26), repeated(1, 26));
  }

  private static int[] repeated(int value, int times) {
    int[] row = new int[times];
    java.util.Arrays.fill(row, value);
    return row;
  }

  private static void configurations() {
    VariantParser x = Make.parser("a= W0 1 O 2 D ; W1 !a; D W2 !a*2; D S1 W1 W3 !7; D D");
    for (int c = 0; c < 16; c++) {
      int a = (c & 1) != 0 ? 1 : 2;
      int k = 0;
      if ((c & 2) != 0) {
        Check.equal("output(" + c + ", " + k + ")", x.output(c, k), a);
        k++;
      }
      if ((c & 4) != 0) {
        Check.equal("output(" + c + ", " + k + ")", x.output(c, k), 2 * a);
        k++;
      }
      if ((c & 8) != 0) {
        Check.equal("output(" + c + ", " + k + ")", x.output(c, k), 7);
        k++;
      }
      Check.equal("outputs(" + c + ")", x.outputs(c), k);
      Check.equal("variable(" + c + ", 0)", x.variable(c, 0), a);
    }
    VariantParser y = Make.parser("!1;");
    Check.equal("output(0, 0)", y.output(0, 0), 1);
    y.replace(1, '2');
    Check.equal("output(0, 0) behind replace()", y.output(0, 0), 2);
    VariantParser z = Make.parser("!a;!d;a=1;d=2;");
    Check.equal("output(0, 0) ahead of a=1", z.output(0, 0), 0);
    z.replace(1, 'd');
    Check.equal("output(0, 0) run again", z.output(0, 0), 0);
    Check.equal("output(0, 1) run again", z.output(0, 1), 0);
    z.replace(4, 'a');
    Check.equal("output(0, 1) run once more", z.output(0, 1), 0);
    y.write(Make.number("!a;"));
    Check.equal("outputs(0) behind write()", y.outputs(0), 2);
    y.drop();
    y.drop();
    y.drop();
    Check.equal("outputs(0) behind drop()", y.outputs(0), 1);
  }

  private static void variable() {
    VariantParser x = Make.parser("a=1;b=-2;c=a-b;d=c*c;a=9;");
    Check.equal("variable(0, 0)", x.variable(0, 0), 9);
    Check.equal("variable(3, 1)", x.variable(3, 1), -2);
    Check.equal("variable(7, 2)", x.variable(7, 2), 3);
    Check.equal("variable(15, 3)", x.variable(15, 3), 9);
    VariantParser empty = new VariantParser();
    for (int v = 0; v < 4; v++) {
      Check.equal("variable(0, " + v + ") when empty", empty.variable(0, v), 0);
    }
    VariantParser y = Make.parser("W0 b=4; D");
    Check.equal("variable(0, 1)", y.variable(0, 1), 0);
    Check.equal("variable(1, 1)", y.variable(1, 1), 4);
    x.replace(2, '6');
    Check.equal("variable(0, 2) behind replace()", x.variable(0, 2), 8);
  }

  private static void exceptions() {
    VariantParser x = Make.parser("!1; W0 ; D !2;");
    int[] noConfigurations = {16, -1, Integer.MAX_VALUE, Integer.MIN_VALUE};
    for (int c : noConfigurations) {
      Check.throwing("outputs(" + c + ")", x, INDEX, () -> x.outputs(c));
      Check.throwing("output(" + c + ", 9)", x, INDEX, () -> x.output(c, 9));
      Check.throwing("variable(" + c + ", 9)", x, INDEX, () -> x.variable(c, 9));
    }
    Check.throwing("outputs(1)", x, MISSING, () -> x.outputs(1));
    Check.throwing("output(1, 0)", x, MISSING, () -> x.output(1, 0));
    Check.throwing("output(1, -1)", x, MISSING, () -> x.output(1, -1));
    Check.throwing("variable(1, 0)", x, MISSING, () -> x.variable(1, 0));
    Check.throwing("variable(1, 4)", x, MISSING, () -> x.variable(1, 4));
    Check.equal("outputs(0)", x.outputs(0), 2);
    Check.throwing("output(0, 2)", x, ARGUMENT, () -> x.output(0, 2));
    Check.throwing("output(0, -1)", x, ARGUMENT, () -> x.output(0, -1));
    Check.throwing("output(0, MAX)", x, ARGUMENT, () -> x.output(0, Integer.MAX_VALUE));
    Check.throwing("variable(0, 4)", x, ARGUMENT, () -> x.variable(0, 4));
    Check.throwing("variable(0, -1)", x, ARGUMENT, () -> x.variable(0, -1));
    VariantParser empty = new VariantParser();
    Check.throwing("output(0, 0) when empty", empty, ARGUMENT, () -> empty.output(0, 0));
    VariantParser end = Make.parser("!1");
    Check.throwing("outputs(0) with an error at the end", end, MISSING, () -> end.outputs(0));
  }

  private static void unfinished() {
    VariantParser x = Make.parser("!1; W0 ;");
    Check.throwing("outputs(0)", x, STATE, () -> x.outputs(0));
    Check.throwing("outputs(16)", x, INDEX, () -> x.outputs(16));
    Check.throwing("output(0, 0)", x, STATE, () -> x.output(0, 0));
    Check.throwing("output(0, 9)", x, STATE, () -> x.output(0, 9));
    Check.throwing("output(1, 0)", x, STATE, () -> x.output(1, 0));
    Check.throwing("output(16, 0)", x, INDEX, () -> x.output(16, 0));
    Check.throwing("variable(0, 0)", x, STATE, () -> x.variable(0, 0));
    Check.throwing("variable(0, 9)", x, STATE, () -> x.variable(0, 9));
    Check.throwing("variable(16, 0)", x, INDEX, () -> x.variable(16, 0));
    Check.throwing("behaviours()", x, STATE, x::behaviours);
  }

  private static void behaviours() {
    Check.equal("behaviours() when empty", new VariantParser().behaviours(), 1);
    Check.equal("behaviours() of errors", Make.parser(")").behaviours(), 0);
    Check.equal("behaviours() of an error", Make.parser("!1; W0 ) D").behaviours(), 1);
    Check.equal("behaviours() of W0", Make.parser("W0 !1; D").behaviours(), 2);
    Check.equal("behaviours() of the same", Make.parser("W0 !1+1; O !2; D").behaviours(), 1);
    Check.equal("behaviours() of orders", Make.parser("W0 !1;!2; O !2;!1; D").behaviours(), 2);
    Check.equal("behaviours() of beginnings", Make.parser("!1; W0 !2; D").behaviours(), 2);
    Check.equal("behaviours() of variables", Make.parser("W0 a=1; D !b;").behaviours(), 1);
    Check.equal("behaviours() of 16",
        Make.parser("! W0 1 O 0 D + W1 2 O 0 D + W2 4 O 0 D + W3 8 O 0 D ;").behaviours(), 16);
    Check.equal("behaviours() of errors beside others",
        Make.parser("W0 !1; D W1 !2; D W2 ) D").behaviours(), 4);
  }
}
