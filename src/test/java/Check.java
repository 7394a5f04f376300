/** Compares answers with those that are due, and ends a test with exit code 1 if one was wrong. */
final class Check {
  interface Call {
    void run();
  }

  /** So many wrong answers are told, of a test and of each sentence. */
  private static final int MOST_TOLD = 20;

  private static int wrong = 0;
  private static int told = 0;
  private static String sentence = "";

  private Check() {}

  /** Runs the test of one sentence of the document, which is told with each wrong answer. */
  static void sentence(String quoted, Call test) {
    sentence = "[" + quoted + "] ";
    told = 0;
    try {
      test.run();
    } catch (RuntimeException e) {
      fail("a call threw " + e);
    }
    sentence = "";
  }

  static void equal(String call, long got, long want) {
    if (got != want) {
      fail(call + " answered " + got + ", due is " + want);
    }
  }

  static void equalDouble(String call, double got, double want) {
    if (Double.compare(got, want) != 0) {
      fail(call + " answered " + got + ", due is " + want);
    }
  }

  static void equalText(String call, String got, String want) {
    if (!got.equals(want)) {
      fail(call + " answered " + got + ", due is " + want);
    }
  }

  /** The call must throw exactly this class, and must leave the parser as it was. */
  static void throwing(String call, VariantParser parser, Class<?> want, Call run) {
    String before = state(parser);
    String got = thrownBy(run);
    if (!got.equals(want.getName())) {
      fail(call + " threw " + got + ", due is " + want.getName());
    }
    if (!state(parser).equals(before)) {
      fail(call + " threw, but changed the parser");
    }
  }

  static String thrownBy(Call run) {
    try {
      run.run();
    } catch (RuntimeException e) {
      return e.getClass().getName();
    }
    return "nothing";
  }

  /** In three calls, since a parser is used for 512 calls at most. */
  private static String state(VariantParser parser) {
    return parser.size() + " " + parser.unfinished() + " " + parser.digest();
  }

  static void fail(String message) {
    wrong++;
    if (told < MOST_TOLD) {
      told++;
      System.out.println(sentence + message);
    }
  }

  static void end() {
    System.out.println(wrong == 0 ? "all answers are as due" : wrong + " answers are not as due");
    if (wrong != 0) {
      System.exit(1);
    }
  }
}
