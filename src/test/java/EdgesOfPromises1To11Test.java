/** Promises 1 to 11, a new object and the source: the sentences with an edge. */
public final class EdgesOfPromises1To11Test {
  private static final Class<?> INDEX = IndexOutOfBoundsException.class;
  private static final Class<?> STATE = IllegalStateException.class;
  private static final Class<?> ARGUMENT = IllegalArgumentException.class;
  private static final String TOKENS = "0123456789abcd+-*()=;{}?:!";
  private static final int MIN = Integer.MIN_VALUE;
  private static final int MAX = Integer.MAX_VALUE;

  private EdgesOfPromises1To11Test() {}

  public static void main(String[] args) {
    Check.sentence("1: Creates a parser with an empty source: its source",
        EdgesOfPromises1To11Test::newSource);
    Check.sentence("1: Creates a parser with an empty source: presence",
        EdgesOfPromises1To11Test::newPresence);
    Check.sentence("1: Creates a parser with an empty source: reading",
        EdgesOfPromises1To11Test::newReading);
    Check.sentence("1: Creates a parser with an empty source: running",
        EdgesOfPromises1To11Test::newRunning);
    Check.sentence("2: those of a number, the highest byte first",
        EdgesOfPromises1To11Test::writeHighestFirst);
    Check.sentence("2: without bytes that are 0", EdgesOfPromises1To11Test::writeWithoutZeros);
    Check.sentence("2: if one of the bytes is neither 0 nor a token",
        EdgesOfPromises1To11Test::writeNoToken);
    Check.sentence("2: if there would be more than 80 items",
        EdgesOfPromises1To11Test::writeTooMany);
    Check.sentence("3: whether it is for on; otherwise for off", EdgesOfPromises1To11Test::whenCodes);
    Check.sentence("3: if feature is not 0 to 3", EdgesOfPromises1To11Test::whenFeature);
    Check.sentence("3: if there are 80 items", EdgesOfPromises1To11Test::whenFull);
    Check.sentence("3: or 5 that are not finished", EdgesOfPromises1To11Test::whenUnfinished);
    Check.sentence("4: belongs to the last WHEN that is not finished",
        EdgesOfPromises1To11Test::otherwiseOfLast);
    Check.sentence("4: if there are 80 items", EdgesOfPromises1To11Test::otherwiseFull);
    Check.sentence("4: there is no such WHEN", EdgesOfPromises1To11Test::otherwiseWithoutWhen);
    Check.sentence("4: or it has an OTHERWISE", EdgesOfPromises1To11Test::otherwiseTwice);
    Check.sentence("5: belongs to the last WHEN that is not finished",
        EdgesOfPromises1To11Test::doneOfLast);
    Check.sentence("5: if there are 80 items", EdgesOfPromises1To11Test::doneFull);
    Check.sentence("5: or there is no such WHEN", EdgesOfPromises1To11Test::doneWithoutWhen);
    Check.sentence("6: whether it turns it on; otherwise off", EdgesOfPromises1To11Test::setCodes);
    Check.sentence("6: if feature is not 0 to 3", EdgesOfPromises1To11Test::setFeature);
    Check.sentence("6: if there are 80 items", EdgesOfPromises1To11Test::setFull);
    Check.sentence("7: Removes the last item", EdgesOfPromises1To11Test::dropEach);
    Check.sentence("7: Returns how many are left", EdgesOfPromises1To11Test::dropLeft);
    Check.sentence("7: if there is none", EdgesOfPromises1To11Test::dropEmpty);
    Check.sentence("8: Returns the token before", EdgesOfPromises1To11Test::replaceBefore);
    Check.sentence("8: if there is no such item", EdgesOfPromises1To11Test::replaceNoItem);
    Check.sentence("8: if the item is no token", EdgesOfPromises1To11Test::replaceDirective);
    Check.sentence("8: if character is no token", EdgesOfPromises1To11Test::replaceNoToken);
    Check.sentence("9: Returns the number of items", EdgesOfPromises1To11Test::size);
    Check.sentence("10: Returns the character of a token; for a WHEN 2 * its feature + 1 for on, 2 *"
        + " its feature for off; for a SET 8 more than that; 16 for an OTHERWISE; 17 for a DONE",
        EdgesOfPromises1To11Test::itemCodes);
    Check.sentence("10: if there is no such item", EdgesOfPromises1To11Test::itemNone);
    Check.sentence("11: Returns how many WHENs are not finished",
        EdgesOfPromises1To11Test::unfinished);
    Check.end();
  }

  // ---- promise 1

  private static void newSource() {
    VariantParser x = new VariantParser();
    Check.equal("size()", x.size(), 0);
    Check.equal("unfinished()", x.unfinished(), 0);
    Check.throwing("item(0)", x, INDEX, () -> x.item(0));
    Check.throwing("replace(0, '1')", x, INDEX, () -> x.replace(0, '1'));
    Check.throwing("drop()", x, STATE, x::drop);
    Check.throwing("otherwise()", x, STATE, x::otherwise);
    Check.throwing("done()", x, STATE, x::done);
    Check.equal("write('1')", x.write('1'), 1);
    Check.equal("when(0, true)", new VariantParser().when(0, true), 1);
    Check.equal("set(0, true)", new VariantParser().set(0, true), 1);
    Check.equal("size() of one beside others", new VariantParser().size(), 0);
  }

  private static void newPresence() {
    VariantParser x = new VariantParser();
    Check.throwing("presence(0)", x, INDEX, () -> x.presence(0));
    Check.throwing("on(0, 0)", x, INDEX, () -> x.on(0, 0));
    Check.equal("features(1)", x.features(1), 15);
    Check.equal("dead()", x.dead(), 0);
    Check.equal("variants()", x.variants(), 1);
    for (int k = 0; k < 16; k++) {
      int c = k;
      Check.equal("length(" + c + ")", x.length(c), 0);
      Check.throwing("place(" + c + ", 0)", x, INDEX, () -> x.place(c, 0));
    }
  }

  private static void newReading() {
    VariantParser x = new VariantParser();
    Check.equal("wrong()", x.wrong(), 0);
    Check.equal("firstError()", x.firstError(), -1);
    Check.throwing("groups(0)", x, INDEX, () -> x.groups(0));
    Check.equal("work()", x.work(), 0);
    Check.equalDouble("gain()", x.gain(), 0.0);
    for (int k = 0; k < 16; k++) {
      int c = k;
      Check.equal("error(" + c + ")", x.error(c), -1);
      Check.throwing("stack(" + c + ", 0)", x, INDEX, () -> x.stack(c, 0));
    }
  }

  private static void newRunning() {
    VariantParser x = new VariantParser();
    Check.equal("behaviours()", x.behaviours(), 1);
    long digest = 139L * 31;
    for (int k = 0; k < 16; k++) {
      int c = k;
      digest = (digest * 31 - 1) * 31;
      Check.equal("outputs(" + c + ")", x.outputs(c), 0);
      Check.throwing("output(" + c + ", 0)", x, ARGUMENT, () -> x.output(c, 0));
      Check.equal("variable(" + c + ", 0)", x.variable(c, 0), 0);
      Check.equal("variable(" + c + ", 3)", x.variable(c, 3), 0);
    }
    Check.equal("digest()", x.digest(), digest);
  }

  // ---- promise 2

  private static void written(String characters, String want) {
    VariantParser x = new VariantParser();
    Check.equal("write(): number of items", x.write(Make.number(characters)), want.length());
    Check.equal("size()", x.size(), want.length());
    for (int k = 0; k < want.length() && k < x.size(); k++) {
      Check.equal("item(" + k + ")", x.item(k), want.charAt(k));
    }
  }

  private static void writeHighestFirst() {
    written("1", "1");
    written("12", "12");
    written("a=b+c*d;", "a=b+c*d;");
    written("12345678", "12345678");
  }

  private static void writeWithoutZeros() {
    written("", "");
    written("\0001\0002\0003\0004", "1234");
    written("1\0002\0003\0004\000", "1234");
    written("1\0\0\0\0\0\0002", "12");
    for (int place = 0; place < 8; place++) {
      String one = Make.repeat("\0", place) + "5" + Make.repeat("\0", 7 - place);
      String seven = "12345678".substring(0, place) + "\0" + "12345678".substring(place + 1);
      written(one, "5");
      written(seven, seven.replace("\0", ""));
    }
    VariantParser x = Make.parser("1");
    Check.equal("write(0) behind a token", x.write(0), 1);
    Check.equal("write(0) at 80 items", Make.tokens(80).write(0), 80);
  }

  private static void writeNoToken() {
    for (int b = 1; b < 256; b++) {
      VariantParser x = new VariantParser();
      boolean isToken = TOKENS.indexOf(b) >= 0;
      for (int place = 0; place < 8; place++) {
        int shift = 8 * place;
        long alone = (long) b << shift;
        long among = Make.number("11111111") & ~(255L << shift) | alone;
        if (isToken) {
          Check.equal("write(" + alone + ")", x.write(alone), 9 * place + 1);
          Check.equal("write(" + among + ")", x.write(among), 9 * place + 9);
        } else {
          Check.throwing("write(" + alone + ")", x, ARGUMENT, () -> x.write(alone));
          Check.throwing("write(" + among + ")", x, ARGUMENT, () -> x.write(among));
        }
      }
    }
    VariantParser x = new VariantParser();
    long[] numbers = {-1L, Long.MIN_VALUE, Long.MAX_VALUE, Integer.MIN_VALUE};
    for (long number : numbers) {
      Check.throwing("write(" + number + ")", x, ARGUMENT, () -> x.write(number));
    }
  }

  private static void writeTooMany() {
    for (int k = 1; k <= 8; k++) {
      int count = k;
      long number = Make.number("22222222".substring(0, count));
      VariantParser fits = Make.tokens(80 - count);
      Check.equal("write() of " + count + " up to 80", fits.write(number), 80);
      Check.equal("item(79) of " + count, fits.item(79), '2');
      VariantParser x = Make.tokens(81 - count);
      Check.throwing("write() of " + count + " up to 81", x, STATE, () -> x.write(number));
      Check.equal("item(80 - " + count + ")", x.item(80 - count), '1');
      Check.throwing("item(81 - " + count + ")", x, INDEX, () -> x.item(81 - count));
    }
    VariantParser x = Make.tokens(79);
    Check.equal("write() of 1 with zeros at 79", x.write(Make.number("2\0\0\0")), 80);
    VariantParser mixed = Make.parser(Make.repeat("W0D", 39) + "S0");
    Check.throwing("write() of 2 at 79", mixed, STATE, () -> mixed.write(Make.number("12")));
    Check.equal("write() of 1 at 79", mixed.write('1'), 80);
    Check.throwing("write() of 1 at 80", mixed, STATE, () -> mixed.write('1'));
  }

  // ---- promise 3

  private static void whenCodes() {
    for (int feature = 0; feature < 4; feature++) {
      VariantParser x = new VariantParser();
      Check.equal("when(" + feature + ", false)", x.when(feature, false), 1);
      Check.equal("when(" + feature + ", true)", x.when(feature, true), 2);
      Check.equal("item(0)", x.item(0), 2 * feature);
      Check.equal("item(1)", x.item(1), 2 * feature + 1);
    }
  }

  private static void whenFeature() {
    VariantParser x = new VariantParser();
    int[] none = {-1, 4, MIN, MAX};
    for (int feature : none) {
      Check.throwing("when(" + feature + ", true)", x, INDEX, () -> x.when(feature, true));
      Check.throwing("when(" + feature + ", false)", x, INDEX, () -> x.when(feature, false));
    }
    Check.equal("when(0, true)", x.when(0, true), 1);
    Check.equal("when(3, false)", x.when(3, false), 2);
  }

  private static void whenFull() {
    VariantParser x = Make.tokens(79);
    Check.equal("when() at 79", x.when(0, true), 80);
    Check.throwing("when() at 80", x, STATE, () -> x.when(0, true));
    VariantParser y = Make.tokens(80);
    Check.throwing("when() at 80 tokens", y, STATE, () -> y.when(3, false));
    y.drop();
    Check.equal("when() at 79 again", y.when(3, false), 80);
  }

  private static void whenUnfinished() {
    VariantParser x = new VariantParser();
    for (int k = 1; k <= 5; k++) {
      Check.equal("when() " + k, x.when(k % 4, k % 2 == 0), k);
    }
    Check.throwing("when() 6", x, STATE, () -> x.when(0, true));
    x.drop();
    Check.equal("when() 5 behind drop()", x.when(0, true), 5);
    x.done();
    Check.equal("when() 5 behind done()", x.when(0, true), 7);
    x.drop();
    x.drop();
    Check.throwing("when() 6 behind drop() of a DONE", x, STATE, () -> x.when(0, true));
  }

  // ---- promise 4

  private static void otherwiseOfLast() {
    VariantParser x = Make.parser("W0 W1 O 1 D O 2");
    Check.equal("presence of the inner one", x.presence(2), 43690);
    Check.equal("presence in the inner one", x.presence(3), 43690 & ~52428);
    Check.equal("presence of the outer one", x.presence(5), 65535);
    Check.equal("presence in the outer one", x.presence(6), 21845);
    VariantParser y = Make.parser("W0 D W1 O 1");
    Check.equal("presence in that of the second WHEN", y.presence(4), 65535 - 52428);
  }

  private static void otherwiseFull() {
    VariantParser x = new VariantParser();
    x.when(0, true);
    for (int k = 0; k < 78; k++) {
      x.write('1');
    }
    Check.equal("otherwise() at 79", x.otherwise(), 80);
    x.drop();
    x.write('1');
    Check.throwing("otherwise() at 80", x, STATE, x::otherwise);
  }

  private static void otherwiseWithoutWhen() {
    String[] notations = {"", "1", "S0", "W0 D", "W0 O D", "W0 W1 D D", "W0 O W1 O D D"};
    for (String notation : notations) {
      VariantParser x = Make.parser(notation);
      Check.throwing(notation + ": otherwise()", x, STATE, x::otherwise);
      int size = x.when(2, true);
      Check.equal(notation + ": otherwise() behind a WHEN", x.otherwise(), size + 1);
    }
  }

  private static void otherwiseTwice() {
    String[] with = {"W0 O", "W0 O 1", "W0 O S0", "W0 O W1 D", "W0 O W1 O D", "W1 W0 O",
        "W0 W1 D O W2 D"};
    for (String notation : with) {
      VariantParser x = Make.parser(notation);
      Check.throwing(notation + ": otherwise()", x, STATE, x::otherwise);
    }
    String[] without = {"W0", "W0 1", "W0 S0", "W0 W1 D", "W0 W1 O D", "W1 O W0", "W0 O W1",
        "W0 O D W1", "W0 W1 W2 O D O D"};
    for (String notation : without) {
      VariantParser x = Make.parser(notation);
      int size = x.size();
      Check.equal(notation + ": otherwise()", x.otherwise(), size + 1);
      x.drop();
      Check.equal(notation + ": otherwise() behind drop()", x.otherwise(), size + 1);
      Check.throwing(notation + ": otherwise() twice", x, STATE, x::otherwise);
    }
  }

  // ---- promise 5

  private static void doneOfLast() {
    VariantParser x = Make.parser("W0 W1 D 1 D 2");
    Check.equal("presence of the inner one", x.presence(2), 43690);
    Check.equal("presence behind it", x.presence(3), 43690);
    Check.equal("presence of the outer one", x.presence(4), 65535);
    Check.equal("presence behind both", x.presence(5), 65535);
  }

  private static void doneFull() {
    VariantParser x = new VariantParser();
    x.when(0, true);
    for (int k = 0; k < 78; k++) {
      x.write('1');
    }
    Check.equal("done() at 79", x.done(), 80);
    x.drop();
    x.write('1');
    Check.throwing("done() at 80", x, STATE, x::done);
  }

  private static void doneWithoutWhen() {
    String[] notations = {"", "1", "S0", "W0 D", "W0 O D", "W0 W1 D D", "W0W1W2W3W0DDDDD"};
    for (String notation : notations) {
      VariantParser x = Make.parser(notation);
      Check.throwing(notation + ": done()", x, STATE, x::done);
      int size = x.when(2, true);
      Check.equal(notation + ": done() behind a WHEN", x.done(), size + 1);
      Check.throwing(notation + ": done() twice", x, STATE, x::done);
    }
  }

  // ---- promise 6

  private static void setCodes() {
    for (int feature = 0; feature < 4; feature++) {
      VariantParser x = new VariantParser();
      Check.equal("set(" + feature + ", false)", x.set(feature, false), 1);
      Check.equal("set(" + feature + ", true)", x.set(feature, true), 2);
      Check.equal("item(0)", x.item(0), 8 + 2 * feature);
      Check.equal("item(1)", x.item(1), 8 + 2 * feature + 1);
      Check.equal("on(" + feature + ", 1)", x.on(feature, 1), 0);
      x.write('1');
      Check.equal("on(" + feature + ", 2)", x.on(feature, 2), 65535);
    }
  }

  private static void setFeature() {
    VariantParser x = new VariantParser();
    int[] none = {-1, 4, MIN, MAX};
    for (int feature : none) {
      Check.throwing("set(" + feature + ", true)", x, INDEX, () -> x.set(feature, true));
      Check.throwing("set(" + feature + ", false)", x, INDEX, () -> x.set(feature, false));
    }
    Check.equal("set(0, true)", x.set(0, true), 1);
    Check.equal("set(3, false)", x.set(3, false), 2);
  }

  private static void setFull() {
    VariantParser x = Make.tokens(79);
    Check.equal("set() at 79", x.set(0, true), 80);
    Check.throwing("set() at 80", x, STATE, () -> x.set(0, true));
    VariantParser y = new VariantParser();
    for (int k = 1; k <= 80; k++) {
      Check.equal("set() " + k, y.set(k % 4, true), k);
    }
    Check.throwing("set() 81", y, STATE, () -> y.set(3, false));
  }

  // ---- promise 7

  private static void dropEach() {
    VariantParser x = Make.parser("1 S0 W0 O D");
    Check.equal("drop() of a DONE", x.drop(), 4);
    Check.equal("unfinished() behind it", x.unfinished(), 1);
    Check.throwing("otherwise() behind it", x, STATE, x::otherwise);
    Check.equal("drop() of an OTHERWISE", x.drop(), 3);
    Check.equal("unfinished() behind it", x.unfinished(), 1);
    Check.equal("otherwise() behind it", x.otherwise(), 4);
    x.drop();
    Check.equal("drop() of a WHEN", x.drop(), 2);
    Check.equal("unfinished() behind it", x.unfinished(), 0);
    Check.throwing("done() behind it", x, STATE, x::done);
    Check.equal("drop() of a SET", x.drop(), 1);
    x.write('1');
    Check.equal("on(0, 1) behind it", x.on(0, 1), 43690);
    x.drop();
    Check.equal("drop() of a token", x.drop(), 0);
    Check.throwing("item(0) behind it", x, INDEX, () -> x.item(0));
  }

  private static void dropLeft() {
    VariantParser x = Make.tokens(80);
    for (int left = 79; left >= 0; left--) {
      Check.equal("drop() down to " + left, x.drop(), left);
    }
    Check.equal("size() in the end", x.size(), 0);
    VariantParser one = Make.tokens(1);
    Check.equal("drop() of the only one", one.drop(), 0);
    VariantParser full = Make.tokens(80);
    full.drop();
    Check.equal("write('2') in the place of the last", full.write('2'), 80);
    Check.equal("item(79)", full.item(79), '2');
  }

  private static void dropEmpty() {
    VariantParser x = new VariantParser();
    Check.throwing("drop() of a new one", x, STATE, x::drop);
    x.write('1');
    Check.equal("drop() of one", x.drop(), 0);
    Check.throwing("drop() of none left", x, STATE, x::drop);
    Check.equal("write() behind it", x.write('1'), 1);
  }

  // ---- promise 8

  private static void replaceBefore() {
    VariantParser x = Make.tokens(80);
    int[] items = {0, 1, 40, 78, 79};
    for (int item : items) {
      Check.equal("replace(" + item + ", 'a')", x.replace(item, 'a'), '1');
      Check.equal("replace(" + item + ", '!')", x.replace(item, '!'), 'a');
      Check.equal("replace(" + item + ", '!') by itself", x.replace(item, '!'), '!');
      Check.equal("item(" + item + ")", x.item(item), '!');
    }
    Check.equal("item(2) beside them", x.item(2), '1');
    Check.equal("size()", x.size(), 80);
    VariantParser y = Make.parser("W0 1");
    Check.equal("replace() in a WHEN that is not finished", y.replace(1, '2'), '1');
    VariantParser z = Make.parser("S0 V0 1");
    Check.equal("replace() of a token in no configuration", z.replace(2, '2'), '1');
  }

  private static void replaceNoItem() {
    VariantParser x = Make.parser("123");
    int[] none = {-1, 3, 4, 79, 80, MIN, MAX};
    for (int item : none) {
      Check.throwing("replace(" + item + ", '4')", x, INDEX, () -> x.replace(item, '4'));
    }
    Check.equal("replace(0, '4')", x.replace(0, '4'), '1');
    Check.equal("replace(2, '4')", x.replace(2, '4'), '3');
    x.drop();
    Check.throwing("replace(2, '5') behind drop()", x, INDEX, () -> x.replace(2, '5'));
    VariantParser full = Make.tokens(80);
    Check.throwing("replace(80, '4') at 80", full, INDEX, () -> full.replace(80, '4'));
  }

  private static void replaceDirective() {
    String[] directives = {"W0", "V0", "W3", "V3", "S0", "C0", "S3", "C3", "W0 O", "W0 D"};
    for (String notation : directives) {
      VariantParser x = Make.parser(notation);
      int last = x.size() - 1;
      Check.throwing(notation + ": replace()", x, STATE, () -> x.replace(last, '1'));
      x.drop();
      x.write('1');
      Check.equal(notation + ": replace() of a token there", x.replace(last, '2'), '1');
    }
  }

  private static void replaceNoToken() {
    VariantParser x = Make.parser("1");
    int[] none = {0, 1, 7, 8, 16, 17, 18, ' ', '"', '/', '<', '>', '@', 'A', 'P', '`', 'e', '|', '~',
        127, 128, 255, 256, 256 + 'a', 65536 + 'a', 'a' - 256, -1, -'a', MIN, MIN + 'a', MAX};
    for (int character : none) {
      Check.throwing("replace(0, " + character + ")", x, ARGUMENT, () -> x.replace(0, character));
    }
    VariantParser y = Make.parser("1");
    for (int k = 0; k < TOKENS.length(); k++) {
      y.replace(0, TOKENS.charAt(k));
      Check.equal("item(0)", y.item(0), TOKENS.charAt(k));
    }
  }

  // ---- promises 9 to 11

  private static void size() {
    VariantParser x = new VariantParser();
    Check.equal("size() of none", x.size(), 0);
    for (int k = 1; k <= 80; k++) {
      x.write('1');
      Check.equal("size() of " + k, x.size(), k);
    }
    x.replace(79, '2');
    Check.equal("size() behind replace()", x.size(), 80);
    x.drop();
    Check.equal("size() behind drop()", x.size(), 79);
    Check.equal("size() of each kind", Make.parser("1 S0 W0 O D").size(), 5);
  }

  private static void itemCodes() {
    VariantParser x = Make.parser("V0 W0 V1 W1 V2 DDDDD V2 W2 V3 W3 O D C0 S0 C1 S1 C2 S2 C3 S3");
    int[] want = {0, 1, 2, 3, 4, 17, 17, 17, 17, 17, 4, 5, 6, 7, 16, 17, 8, 9, 10, 11, 12, 13, 14,
        15};
    for (int i = 0; i < want.length; i++) {
      Check.equal("item(" + i + ")", x.item(i), want[i]);
    }
    VariantParser y = Make.parser(TOKENS);
    for (int i = 0; i < TOKENS.length(); i++) {
      Check.equal("item(" + i + ") of a token", y.item(i), TOKENS.charAt(i));
    }
  }

  private static void itemNone() {
    VariantParser x = Make.parser("1 W0");
    int[] none = {-1, 2, 3, 79, 80, MIN, MAX};
    for (int item : none) {
      Check.throwing("item(" + item + ")", x, INDEX, () -> x.item(item));
    }
    Check.equal("item(0)", x.item(0), '1');
    Check.equal("item(1)", x.item(1), 1);
    x.drop();
    Check.throwing("item(1) behind drop()", x, INDEX, () -> x.item(1));
    VariantParser full = Make.tokens(80);
    Check.equal("item(79) of 80", full.item(79), '1');
    Check.throwing("item(80) of 80", full, INDEX, () -> full.item(80));
  }

  private static void unfinished() {
    VariantParser x = new VariantParser();
    Check.equal("unfinished() of no items", x.unfinished(), 0);
    for (int k = 1; k <= 5; k++) {
      x.when(0, true);
      Check.equal("unfinished() in " + k, x.unfinished(), k);
      x.otherwise();
      Check.equal("unfinished() in the OTHERWISE of " + k, x.unfinished(), k);
    }
    for (int k = 4; k >= 0; k--) {
      x.done();
      Check.equal("unfinished() behind a DONE", x.unfinished(), k);
    }
    x.drop();
    Check.equal("unfinished() behind drop() of a DONE", x.unfinished(), 1);
    Check.equal("unfinished() of 40 that are finished",
        Make.parser(Make.repeat("W0 D", 40)).unfinished(), 0);
  }
}
