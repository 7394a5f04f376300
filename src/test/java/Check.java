/** Compares answers with those that are due, and ends a test with exit code 1 if one was wrong. */
final class Check {
  interface Call {
    void run();
  }

  private static int wrong = 0;

  private Check() {}

  static void equal(String call, long got, long want) {
    if (got != want) {
      fail(call + " answered " + got + ", due is " + want);
    }
  }

  static void equalDouble(String call, double got, double want) {
    if (Double.compare(got, want) != 0) {
      fail(call + " answered " + got + ", due is " + want);
    }
  }

  static void equalText(String call, String got, String want) {
    if (!got.equals(want)) {
      fail(call + " answered " + got + ", due is " + want);
    }
  }

  /** The call must throw exactly this class, and must leave the parser as it was. */
  static void throwing(String call, VariantParser parser, Class<?> want, Call run) {
    String before = state(parser);
    String got = "nothing";
    try {
      run.run();
    } catch (RuntimeException e) {
      got = e.getClass().getName();
    }
    if (!got.equals(want.getName())) {
      fail(call + " threw " + got + ", due is " + want.getName());
    }
    if (!state(parser).equals(before)) {
      fail(call + " threw, but changed the parser");
    }
  }

  private static String state(VariantParser parser) {
    StringBuilder text = new StringBuilder();
    text.append(parser.unfinished()).append(' ').append(parser.digest());
    for (int i = 0; i < parser.size(); i++) {
      text.append(' ').append(parser.item(i));
    }
    return text.toString();
  }

  static void fail(String message) {
    wrong++;
    if (wrong <= 50) {
      System.out.println(message);
    }
  }

  static void end() {
    System.out.println(wrong == 0 ? "all answers are as due" : wrong + " answers are not as due");
    if (wrong != 0) {
      System.exit(1);
    }
  }
}
