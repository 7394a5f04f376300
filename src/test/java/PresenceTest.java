/** Promises 12 to 18: presence. */
public final class PresenceTest {
  private static final Class<?> INDEX = IndexOutOfBoundsException.class;
  private static final Class<?> ARGUMENT = IllegalArgumentException.class;
  private static final int ALL = 65535;
  private static final int[] ON = {43690, 52428, 61680, 65280};

  private PresenceTest() {}

  public static void main(String[] args) {
    presenceOfOne();
    presenceWithin();
    presenceBehindSet();
    presenceBehindChanges();
    presenceErrors();
    on();
    features();
    dead();
    length();
    place();
    variants();
    Check.end();
  }

  private static void presences(String notation, int... want) {
    VariantParser x = Make.parser(notation);
    Check.equal(notation + ": size()", x.size(), want.length);
    for (int i = 0; i < want.length && i < x.size(); i++) {
      Check.equal(notation + ": presence(" + i + ")", x.presence(i), want[i]);
    }
  }

  private static void presenceOfOne() {
    for (int f = 0; f < 4; f++) {
      presences("1 W" + f + " 2 O 3 D 4", ALL, ALL, ON[f], ALL, ALL - ON[f], ALL, ALL);
      presences("1 V" + f + " 2 O 3 D 4", ALL, ALL, ALL - ON[f], ALL, ON[f], ALL, ALL);
      presences("W" + f + " 2 D 4", ALL, ON[f], ALL, ALL);
    }
  }

  private static void presenceWithin() {
    int both = ON[0] & ON[1];
    int neither = ALL & ~ON[0] & ~ON[1];
    presences("W0 W1 1 O 2 D 3 O V1 4 O 5 D 6 D 7",
        ALL, ON[0], both, ON[0], ON[0] & ~ON[1], ON[0], ON[0], ALL,
        ALL - ON[0], neither, ALL - ON[0], ON[1] & ~ON[0], ALL - ON[0], ALL - ON[0], ALL, ALL);
    presences("W0 V0 1 O 2 D D", ALL, ON[0], 0, ON[0], ON[0], ON[0], ALL);
    presences("W0W1W2W3V3 1 O 2", ALL, ON[0], both, both & ON[2], 32768, 0, 32768, 32768);
    presences("W0 O W1", ALL, ALL, ALL - ON[0]);
  }

  private static void presenceBehindSet() {
    presences("S0 W0 1 O 2 D", ALL, ALL, ALL, ALL, 0, ALL);
    presences("C0 W0 1 O 2 D", ALL, ALL, 0, ALL, ALL, ALL);
    presences("W0 C0 1 O 2 S0 D W0 3 D",
        ALL, ON[0], ON[0], ALL, ALL - ON[0], ALL - ON[0], ALL, ALL, ALL - ON[0], ALL);
    presences("W1 S2 D W2 1 O 2 D",
        ALL, ON[1], ALL, ALL, ON[1] | ON[2], ALL, ALL & ~(ON[1] | ON[2]), ALL);
    presences("W1 C2 D V2 1 D",
        ALL, ON[1], ALL, ALL, ON[1] | (ALL - ON[2]), ALL);
  }

  private static void presenceBehindChanges() {
    VariantParser x = Make.parser("W0 1");
    for (int k = 0; k < 10; k++) {
      Check.equal("presence(1)", x.presence(1), ON[0]);
      x.write('2');
      Check.equal("presence of the last", x.presence(2 + k), ON[0]);
    }
    x.otherwise();
    x.write('3');
    Check.equal("presence behind OTHERWISE", x.presence(13), ALL - ON[0]);
    x.drop();
    x.drop();
    x.done();
    x.write('3');
    Check.equal("presence behind DONE", x.presence(13), ALL);
    x.drop();
    x.drop();
    x.set(1, true);
    x.when(1, false);
    x.write('4');
    Check.equal("presence behind SET", x.presence(14), 0);
    x.drop();
    x.drop();
    x.drop();
    x.when(1, false);
    x.write('4');
    Check.equal("presence behind drop() of a SET", x.presence(13), ON[0] & ~ON[1]);
  }

  private static void presenceErrors() {
    VariantParser x = Make.parser("W0 1");
    Check.throwing("presence(2)", x, INDEX, () -> x.presence(2));
    Check.throwing("presence(-1)", x, INDEX, () -> x.presence(-1));
    VariantParser full = Make.parser(Make.repeat("W0 1 D", 26) + "S1 2");
    Check.equal("presence(79)", full.presence(79), ALL);
    Check.throwing("presence(80)", full, INDEX, () -> full.presence(80));
  }

  private static void on() {
    VariantParser x = Make.parser("1 S0 W1 C0 O S3 D C1 2");
    for (int f = 0; f < 4; f++) {
      Check.equal("on(" + f + ", 0)", x.on(f, 0), ON[f]);
      Check.equal("on(" + f + ", 1)", x.on(f, 1), ON[f]);
    }
    Check.equal("on(0, 2)", x.on(0, 2), ALL);
    Check.equal("on(0, 3)", x.on(0, 3), ALL);
    Check.equal("on(0, 4)", x.on(0, 4), ALL - ON[1]);
    Check.equal("on(3, 5)", x.on(3, 5), ON[3]);
    Check.equal("on(3, 6)", x.on(3, 6), ON[3] | (ALL - ON[1]));
    Check.equal("on(1, 7)", x.on(1, 7), ON[1]);
    Check.equal("on(1, 8)", x.on(1, 8), 0);
    Check.equal("on(2, 8)", x.on(2, 8), ON[2]);
    Check.throwing("on(4, 0)", x, INDEX, () -> x.on(4, 0));
    Check.throwing("on(-1, 0)", x, INDEX, () -> x.on(-1, 0));
    Check.throwing("on(0, 9)", x, INDEX, () -> x.on(0, 9));
    Check.throwing("on(0, -1)", x, INDEX, () -> x.on(0, -1));
    VariantParser y = Make.parser("W0 W1 C2 1");
    Check.equal("on(2, 3) within WHENs", y.on(2, 3), ON[2] & ~(ON[0] & ON[1]));
  }

  private static void features() {
    VariantParser x = new VariantParser();
    Check.equal("features(0)", x.features(0), 0);
    Check.equal("features(65535)", x.features(ALL), 0);
    for (int f = 0; f < 4; f++) {
      Check.equal("features of feature " + f, x.features(ON[f]), 1 << f);
      Check.equal("features of no feature " + f, x.features(ALL - ON[f]), 1 << f);
    }
    for (int c = 0; c < 16; c++) {
      Check.equal("features of configuration " + c, x.features(1 << c), 15);
    }
    Check.equal("features of 0 and 1", x.features(ON[0] & ON[1]), 3);
    Check.equal("features of 2 or 3", x.features(ON[2] | ON[3]), 12);
    Check.equal("features of 0 xor 3", x.features(ON[0] ^ ON[3]), 9);
    Check.equal("features of 1 with 2", x.features(ON[1] & ON[2] | ON[0] & ~ON[2]), 7);
    Check.throwing("features(-1)", x, ARGUMENT, () -> x.features(-1));
    Check.throwing("features(65536)", x, ARGUMENT, () -> x.features(65536));
    Check.throwing("features(MIN)", x, ARGUMENT, () -> x.features(Integer.MIN_VALUE));
  }

  private static void dead() {
    Check.equal("dead() when empty", new VariantParser().dead(), 0);
    Check.equal("dead() of V0 in W0", Make.parser("1 W0 V0 23 S1 O 4 D D").dead(), 2);
    Check.equal("dead() when unfinished", Make.parser("S0 W0 1 O 2").dead(), 1);
    Check.equal("dead() has no directives", Make.parser("S0 W0 O W1 D S0 D").dead(), 0);
    VariantParser x = Make.parser("S0 V0 1");
    Check.equal("dead() ahead of drop()", x.dead(), 1);
    x.drop();
    Check.equal("dead() behind drop()", x.dead(), 0);
  }

  private static void length() {
    VariantParser x = Make.parser("1 W0 23 O W1 4 D D S0 5");
    int[] want = {2, 4, 3, 4};
    for (int c = 0; c < 16; c++) {
      Check.equal("length(" + c + ")", x.length(c), want[c % 4]);
    }
    Check.throwing("length(16)", x, INDEX, () -> x.length(16));
    Check.throwing("length(-1)", x, INDEX, () -> x.length(-1));
    Check.equal("length(3) when empty", new VariantParser().length(3), 0);
    Check.equal("length(0) when unfinished", Make.parser("1 W0 2").length(0), 1);
    Check.equal("length(15) of 80", Make.parser(Make.repeat("0", 80)).length(15), 80);
  }

  private static void place() {
    VariantParser x = Make.parser("1 W0 23 O W1 4 D D S0 5");
    int[][] want = {{0, 10}, {0, 2, 3, 10}, {0, 6, 10}, {0, 2, 3, 10}};
    for (int c = 0; c < 16; c++) {
      int[] places = want[c % 4];
      for (int k = 0; k < places.length; k++) {
        Check.equal("place(" + c + ", " + k + ")", x.place(c, k), places[k]);
      }
      int configuration = c;
      Check.throwing("place behind", x, INDEX, () -> x.place(configuration, places.length));
      Check.throwing("place(-1)", x, INDEX, () -> x.place(configuration, -1));
    }
    Check.throwing("place(16, 0)", x, INDEX, () -> x.place(16, 0));
    Check.throwing("place(-1, 0)", x, INDEX, () -> x.place(-1, 0));
    VariantParser empty = new VariantParser();
    Check.throwing("place(0, 0) when empty", empty, INDEX, () -> empty.place(0, 0));
    Check.equal("place when unfinished", Make.parser("W0 1").place(1, 0), 1);
  }

  private static void variants() {
    Check.equal("variants() of 1", Make.parser("a=1;").variants(), 1);
    Check.equal("variants() of W0", Make.parser("W0 1 D").variants(), 2);
    Check.equal("variants() of the same", Make.parser("W0 1 O 1 D").variants(), 1);
    Check.equal("variants() of 4", Make.parser("W0 1 D W1 2 D").variants(), 4);
    Check.equal("variants() of 1s", Make.parser("W0 1 D W1 1 D").variants(), 3);
    Check.equal("variants() of 16", Make.parser("W0 1 D W1 2 D W2 3 D W3 4 D").variants(), 16);
    Check.equal("variants() of unfinished", Make.parser("W0 1 O 2").variants(), 2);
    Check.equal("variants() of orders", Make.parser("W0 12 O 21 D").variants(), 2);
    Check.equal("variants() of shifts", Make.parser("W0 1 D 1 V0 1 D").variants(), 1);
  }
}
