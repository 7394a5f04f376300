/** Promises 1 to 11: a new object and the source. */
public final class SourceTest {
  private static final Class<?> INDEX = IndexOutOfBoundsException.class;
  private static final Class<?> STATE = IllegalStateException.class;
  private static final Class<?> ARGUMENT = IllegalArgumentException.class;
  private static final String TOKENS = "0123456789abcd+-*()=;{}?:!";

  private SourceTest() {}

  public static void main(String[] args) {
    newObject();
    writeAppendsBytes();
    writeRefusesBytes();
    writeRefusesTooMany();
    when();
    otherwise();
    done();
    set();
    drop();
    replace();
    itemTellsEach();
    unfinished();
    Check.end();
  }

  private static void newObject() {
    VariantParser x = new VariantParser();
    Check.equal("new: size()", x.size(), 0);
    Check.equal("new: unfinished()", x.unfinished(), 0);
    Check.equal("new: variants()", x.variants(), 1);
    Check.equal("new: wrong()", x.wrong(), 0);
    Check.equal("new: behaviours()", x.behaviours(), 1);
    VariantParser y = new VariantParser();
    y.write('a');
    Check.equal("new: size() beside another", x.size(), 0);
  }

  private static void writeAppendsBytes() {
    VariantParser x = new VariantParser();
    Check.equal("write(0)", x.write(0), 0);
    Check.equal("write a=1;", x.write(Make.number("a=1;")), 4);
    Check.equal("item(0)", x.item(0), 'a');
    Check.equal("item(1)", x.item(1), '=');
    Check.equal("item(2)", x.item(2), '1');
    Check.equal("item(3)", x.item(3), ';');
    Check.equal("write 8 bytes", x.write(Make.number("!9*(b+c)")), 12);
    Check.equal("item(4)", x.item(4), '!');
    Check.equal("item(11)", x.item(11), ')');
    Check.equal("write with 0 between", x.write(Make.number("d\0\0-\0}\0")), 15);
    Check.equal("item(12)", x.item(12), 'd');
    Check.equal("item(13)", x.item(13), '-');
    Check.equal("item(14)", x.item(14), '}');
    Check.equal("write in the highest byte", x.write((long) '?' << 56), 16);
    Check.equal("item(15)", x.item(15), '?');
  }

  private static void writeRefusesBytes() {
    for (int b = 1; b < 256; b++) {
      int character = b;
      VariantParser x = new VariantParser();
      if (TOKENS.indexOf((char) b) >= 0) {
        Check.equal("write(" + b + ")", x.write(b), 1);
        Check.equal("item(0) behind write(" + b + ")", x.item(0), b);
      } else {
        for (int shift = 0; shift <= 56; shift += 8) {
          long number = (long) character << shift;
          long among = number | (shift == 0 ? (long) 'a' << 56 : 'a');
          Check.throwing("write(" + number + ")", x, ARGUMENT, () -> x.write(number));
          Check.throwing("write(" + among + ")", x, ARGUMENT, () -> x.write(among));
        }
      }
    }
    VariantParser x = new VariantParser();
    Check.throwing("write(-1)", x, ARGUMENT, () -> x.write(-1));
    Check.throwing("write(MIN)", x, ARGUMENT, () -> x.write(Long.MIN_VALUE));
  }

  private static void writeRefusesTooMany() {
    VariantParser x = Make.parser(Make.repeat("0", 76));
    Check.throwing("write 5 at 76", x, STATE, () -> x.write(Make.number("12345")));
    Check.equal("write 4 at 76", x.write(Make.number("1\0002\00034")), 80);
    Check.equal("write(0) at 80", x.write(0), 80);
    Check.throwing("write at 80", x, STATE, () -> x.write('1'));
    Check.throwing("write no token at 80", x, ARGUMENT, () -> x.write('e'));
    Check.throwing("write a token and none at 80", x, ARGUMENT, () -> x.write(Make.number("1e")));
  }

  private static void when() {
    VariantParser x = new VariantParser();
    Check.equal("when(0, false)", x.when(0, false), 1);
    Check.equal("when(3, true)", x.when(3, true), 2);
    Check.throwing("when(4, true)", x, INDEX, () -> x.when(4, true));
    Check.throwing("when(-1, true)", x, INDEX, () -> x.when(-1, true));
    Check.throwing("when(MIN, true)", x, INDEX, () -> x.when(Integer.MIN_VALUE, true));
    Make.append(x, "W1W1W1");
    Check.throwing("when at 5 unfinished", x, STATE, () -> x.when(0, true));
    Check.throwing("when(4) at 5 unfinished", x, INDEX, () -> x.when(4, true));
    x.otherwise();
    Check.throwing("when at 5 with an OTHERWISE", x, STATE, () -> x.when(0, true));
    x.done();
    Check.equal("when at 4 unfinished", x.when(2, true), 8);
    VariantParser full = Make.parser(Make.repeat("0", 80));
    Check.throwing("when at 80", full, STATE, () -> full.when(0, true));
    Check.throwing("when(4) at 80", full, INDEX, () -> full.when(4, true));
    VariantParser many = Make.parser(Make.repeat("W0D", 39));
    Check.equal("many finished: when", many.when(0, true), 79);
    Check.equal("many finished: done", many.done(), 80);
  }

  private static void otherwise() {
    VariantParser x = new VariantParser();
    Check.throwing("otherwise() when empty", x, STATE, x::otherwise);
    x.when(0, true);
    Check.equal("otherwise()", x.otherwise(), 2);
    Check.throwing("otherwise() twice", x, STATE, x::otherwise);
    x.when(1, true);
    Check.equal("otherwise() within", x.otherwise(), 4);
    x.done();
    Check.throwing("otherwise() behind a finished one", x, STATE, x::otherwise);
    x.done();
    Check.throwing("otherwise() at 0 unfinished", x, STATE, x::otherwise);
    VariantParser y = Make.parser("W0 W1 O D");
    Check.equal("otherwise() of the outer one", y.otherwise(), 5);
    Check.throwing("otherwise() of the outer one twice", y, STATE, y::otherwise);
    VariantParser full = Make.parser("W0" + Make.repeat("0", 78));
    Check.equal("otherwise() as 80th", full.otherwise(), 80);
    full.drop();
    full.write('1');
    Check.throwing("otherwise() at 80", full, STATE, full::otherwise);
  }

  private static void done() {
    VariantParser x = new VariantParser();
    Check.throwing("done() when empty", x, STATE, x::done);
    x.when(0, true);
    x.when(0, true);
    Check.equal("done()", x.done(), 3);
    x.otherwise();
    Check.equal("done() behind OTHERWISE", x.done(), 5);
    Check.throwing("done() at 0 unfinished", x, STATE, x::done);
    VariantParser full = Make.parser("W0" + Make.repeat("0", 78));
    Check.equal("done() as 80th", full.done(), 80);
    full.drop();
    full.write('1');
    Check.throwing("done() at 80", full, STATE, full::done);
  }

  private static void set() {
    VariantParser x = new VariantParser();
    Check.equal("set(0, true)", x.set(0, true), 1);
    Check.equal("set(3, false)", x.set(3, false), 2);
    Check.throwing("set(4, true)", x, INDEX, () -> x.set(4, true));
    Check.throwing("set(-1, false)", x, INDEX, () -> x.set(-1, false));
    VariantParser full = Make.parser(Make.repeat("S1", 79));
    Check.equal("set as 80th", full.set(0, true), 80);
    Check.throwing("set at 80", full, STATE, () -> full.set(0, true));
    Check.throwing("set(4) at 80", full, INDEX, () -> full.set(4, true));
  }

  private static void drop() {
    VariantParser x = Make.parser("1 W0 O W1 D");
    Check.equal("drop() a DONE", x.drop(), 4);
    Check.equal("unfinished()", x.unfinished(), 2);
    Check.equal("otherwise() again", x.otherwise(), 5);
    Check.equal("drop() an OTHERWISE", x.drop(), 4);
    Check.equal("otherwise() once more", x.otherwise(), 5);
    x.drop();
    Check.equal("drop() a WHEN", x.drop(), 3);
    Check.throwing("otherwise() of the outer one", x, STATE, x::otherwise);
    Check.equal("drop() the outer OTHERWISE", x.drop(), 2);
    Check.equal("drop() the outer WHEN", x.drop(), 1);
    Check.throwing("done() behind drop()", x, STATE, x::done);
    Check.equal("drop() a token", x.drop(), 0);
    Check.throwing("drop() when empty", x, STATE, x::drop);
    VariantParser full = Make.parser(Make.repeat("0", 80));
    Check.equal("drop() at 80", full.drop(), 79);
    Check.equal("write behind drop()", full.write('7'), 80);
    Check.equal("item(79)", full.item(79), '7');
    VariantParser deep = Make.parser("W0W0W0W0W0D");
    deep.drop();
    Check.throwing("when behind drop() of a DONE", deep, STATE, () -> deep.when(0, true));
  }

  private static void replace() {
    VariantParser x = Make.parser("a=1; W0 O D S0");
    Check.equal("replace(2, '9')", x.replace(2, '9'), '1');
    Check.equal("replace(2, ';')", x.replace(2, ';'), '9');
    Check.equal("item(2)", x.item(2), ';');
    Check.equal("size()", x.size(), 8);
    Check.throwing("replace(8, '1')", x, INDEX, () -> x.replace(8, '1'));
    Check.throwing("replace(-1, '1')", x, INDEX, () -> x.replace(-1, '1'));
    Check.throwing("replace(80, 0)", x, INDEX, () -> x.replace(80, 0));
    for (int i = 4; i < 8; i++) {
      int item = i;
      Check.throwing("replace(" + i + ", '1')", x, STATE, () -> x.replace(item, '1'));
      Check.throwing("replace(" + i + ", 'e')", x, STATE, () -> x.replace(item, 'e'));
    }
    int[] noTokens = {0, -1, 1, 16, 17, 'e', 'P', ' ', '/', '[', 65536 + 'a', 256 + 'a', 'a' - 256,
        Integer.MIN_VALUE, Integer.MAX_VALUE};
    for (int character : noTokens) {
      Check.throwing("replace(0, " + character + ")", x, ARGUMENT, () -> x.replace(0, character));
    }
    for (int k = 0; k < TOKENS.length(); k++) {
      x.replace(0, TOKENS.charAt(k));
      Check.equal("item(0)", x.item(0), TOKENS.charAt(k));
    }
  }

  private static void itemTellsEach() {
    VariantParser x = Make.parser("V0W0V1W1V2 DDDDD V2W2V3W3 O D C0S0C1S1C2S2C3S3 !");
    int[] want = {0, 1, 2, 3, 4, 17, 17, 17, 17, 17, 4, 5, 6, 7, 16, 17, 8, 9, 10, 11, 12, 13, 14,
        15, '!'};
    Check.equal("size()", x.size(), want.length);
    for (int i = 0; i < want.length; i++) {
      Check.equal("item(" + i + ")", x.item(i), want[i]);
    }
    Check.throwing("item(25)", x, INDEX, () -> x.item(25));
    Check.throwing("item(-1)", x, INDEX, () -> x.item(-1));
    x.drop();
    Check.throwing("item(24) behind drop()", x, INDEX, () -> x.item(24));
    VariantParser empty = new VariantParser();
    Check.throwing("item(0) when empty", empty, INDEX, () -> empty.item(0));
  }

  private static void unfinished() {
    VariantParser x = new VariantParser();
    for (int k = 1; k <= 5; k++) {
      x.when(k % 4, true);
      Check.equal("unfinished() within " + k, x.unfinished(), k);
    }
    x.otherwise();
    x.set(0, true);
    x.write('1');
    Check.equal("unfinished() behind others", x.unfinished(), 5);
    for (int k = 4; k >= 0; k--) {
      x.done();
      Check.equal("unfinished() within " + k, x.unfinished(), k);
    }
    x.drop();
    Check.equal("unfinished() behind drop() of a DONE", x.unfinished(), 1);
  }
}
