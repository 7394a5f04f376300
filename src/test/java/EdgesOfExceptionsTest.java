import java.util.NoSuchElementException;
import java.util.function.Consumer;

/** The description of exceptions: what a method that throws leaves, and which one it throws. */
public final class EdgesOfExceptionsTest {
  private static final Class<?> INDEX = IndexOutOfBoundsException.class;
  private static final Class<?> STATE = IllegalStateException.class;
  private static final Class<?> MISSING = NoSuchElementException.class;
  private static final Class<?> ARGUMENT = IllegalArgumentException.class;
  private static final String FULL = "W0" + Make.repeat("1", 79);
  private static final String FULL_AND_FINISHED = Make.repeat("!1;", 26) + "{}";

  private EdgesOfExceptionsTest() {}

  public static void main(String[] args) {
    Check.sentence("A method that throws an exception changes nothing (source)",
        EdgesOfExceptionsTest::nothingOfTheSource);
    Check.sentence("A method that throws an exception changes nothing (80 items)",
        EdgesOfExceptionsTest::nothingOfTheFull);
    Check.sentence("A method that throws an exception changes nothing (presence)",
        EdgesOfExceptionsTest::nothingOfPresence);
    Check.sentence("A method that throws an exception changes nothing (reading)",
        EdgesOfExceptionsTest::nothingOfReading);
    Check.sentence("A method that throws an exception changes nothing (running)",
        EdgesOfExceptionsTest::nothingOfRunning);
    Check.sentence("the one that is named first is thrown (source)",
        EdgesOfExceptionsTest::firstOfTheSource);
    Check.sentence("the one that is named first is thrown (reading)",
        EdgesOfExceptionsTest::firstOfReading);
    Check.sentence("the one that is named first is thrown (running)",
        EdgesOfExceptionsTest::firstOfRunning);
    Check.end();
  }

  /** Refuses the call, and goes on as a twin does that was never called so. */
  private static void refused(String notation, String call, Class<?> want,
      Consumer<VariantParser> run) {
    VariantParser x = Make.parser(notation);
    VariantParser twin = Make.parser(notation);
    String name = notation + ": " + call;
    String got = Check.thrownBy(() -> run.accept(x));
    Check.equalText(name + ", exception", got, want.getName());
    if (x.size() != twin.size()) {
      Check.fail(name + " threw, but left " + x.size() + " items");
      return;
    }
    if (x.size() < 20) {
      Check.equalText(name + ", all answers", Snapshot.of(x), Snapshot.of(twin));
    }
    Check.equal(name + ", digest()", x.digest(), twin.digest());
    goOn(name, x, twin);
  }

  /** A row that is not told of is told of by what the next calls answer. */
  private static void goOn(String name, VariantParser x, VariantParser twin) {
    while (twin.size() > 75) {
      Check.equal(name + ", drop() behind it", x.drop(), twin.drop());
    }
    Check.equalText(name + ", otherwise() behind it",
        Check.thrownBy(x::otherwise), Check.thrownBy(twin::otherwise));
    Check.equalText(name + ", done() behind it",
        Check.thrownBy(x::done), Check.thrownBy(twin::done));
    Check.equal(name + ", write() behind it", x.write(';'), twin.write(';'));
    Check.equal(name + ", unfinished() behind it", x.unfinished(), twin.unfinished());
    Check.equal(name + ", digest() behind it", x.digest(), twin.digest());
  }

  private static void nothingOfTheSource() {
    refused("a=1;", "write(e)", ARGUMENT, x -> x.write('e'));
    refused("a=1;", "write(;;;e)", ARGUMENT, x -> x.write(Make.number(";;;e")));
    refused("a=1;", "write(e;;;)", ARGUMENT, x -> x.write(Make.number("e;;;")));
    refused("W0 a", "when(4, true)", INDEX, x -> x.when(4, true));
    refused("W0 a", "when(-1, false)", INDEX, x -> x.when(-1, false));
    refused("W0 W1 W2 W3 W0", "when(0, true)", STATE, x -> x.when(0, true));
    refused("W0 O W2 W3 W0 O W1", "when(0, true)", STATE, x -> x.when(0, true));
    refused("", "otherwise()", STATE, VariantParser::otherwise);
    refused("W0 D", "otherwise()", STATE, VariantParser::otherwise);
    refused("W0 O 1", "otherwise()", STATE, VariantParser::otherwise);
    refused("", "done()", STATE, VariantParser::done);
    refused("W0 O D !", "done()", STATE, VariantParser::done);
    refused("W0 a", "set(4, true)", INDEX, x -> x.set(4, true));
    refused("W0 a", "set(-1, false)", INDEX, x -> x.set(-1, false));
    refused("", "drop()", STATE, VariantParser::drop);
    refused("a=1;", "replace(4, '1')", INDEX, x -> x.replace(4, '1'));
    refused("a=1;", "replace(-1, '1')", INDEX, x -> x.replace(-1, '1'));
    refused("W0 a O D S1", "replace(0, '1')", STATE, x -> x.replace(0, '1'));
    refused("W0 a O D S1", "replace(2, '1')", STATE, x -> x.replace(2, '1'));
    refused("W0 a O D S1", "replace(3, '1')", STATE, x -> x.replace(3, '1'));
    refused("W0 a O D S1", "replace(4, '1')", STATE, x -> x.replace(4, '1'));
    refused("a=2;", "replace(2, 'e')", ARGUMENT, x -> x.replace(2, 'e'));
    refused("a=2;", "replace(2, 0)", ARGUMENT, x -> x.replace(2, 0));
    refused("a=2;", "replace(2, 17)", ARGUMENT, x -> x.replace(2, 17));
    refused("a=1;", "item(4)", INDEX, x -> x.item(4));
    refused("a=1;", "item(-1)", INDEX, x -> x.item(-1));
  }

  private static void nothingOfTheFull() {
    refused(FULL, "write(1)", STATE, x -> x.write('1'));
    refused(FULL, "when(0, true)", STATE, x -> x.when(0, true));
    refused(FULL, "otherwise()", STATE, VariantParser::otherwise);
    refused(FULL, "done()", STATE, VariantParser::done);
    refused(FULL, "set(0, true)", STATE, x -> x.set(0, true));
    refused(FULL, "write(e)", ARGUMENT, x -> x.write('e'));
    refused(FULL, "replace(80, '2')", INDEX, x -> x.replace(80, '2'));
    refused(FULL.substring(1, 76), "write 8 of 5", STATE, x -> x.write(Make.number("12345678")));
    refused(FULL.substring(1, 76), "write 6 of 5", STATE, x -> x.write(Make.number("123456")));
  }

  private static void nothingOfPresence() {
    refused("a=1;", "presence(4)", INDEX, x -> x.presence(4));
    refused("W0 a", "presence(-1)", INDEX, x -> x.presence(-1));
    refused("W0 a", "on(4, 0)", INDEX, x -> x.on(4, 0));
    refused("W0 a", "on(0, 2)", INDEX, x -> x.on(0, 2));
    refused("W0 a", "features(65536)", ARGUMENT, x -> x.features(65536));
    refused("W0 a", "features(-1)", ARGUMENT, x -> x.features(-1));
    refused("W0 a", "length(16)", INDEX, x -> x.length(16));
    refused("W0 a", "place(16, 0)", INDEX, x -> x.place(16, 0));
    refused("W0 a", "place(0, 0)", INDEX, x -> x.place(0, 0));
  }

  private static void nothingOfReading() {
    refused("!1;", "error(16)", INDEX, x -> x.error(16));
    refused("!1; W0", "error(0)", STATE, x -> x.error(0));
    refused("!1; W0", "wrong()", STATE, VariantParser::wrong);
    refused("!1; W0", "firstError()", STATE, VariantParser::firstError);
    refused("!1;", "groups(3)", INDEX, x -> x.groups(3));
    refused("!1; W0", "groups(0)", STATE, x -> x.groups(0));
    refused("!1; W0", "work()", STATE, VariantParser::work);
    refused("!1; W0", "gain()", STATE, VariantParser::gain);
    refused("!1;", "stack(16, 0)", INDEX, x -> x.stack(16, 0));
    refused("!1;", "stack(0, 3)", INDEX, x -> x.stack(0, 3));
    refused("!1; W0", "stack(0, 0)", STATE, x -> x.stack(0, 0));
  }

  private static void nothingOfRunning() {
    refused("!1;", "outputs(16)", INDEX, x -> x.outputs(16));
    refused("!1; W0", "outputs(0)", STATE, x -> x.outputs(0));
    refused("!1", "outputs(0)", MISSING, x -> x.outputs(0));
    refused("!1;", "output(16, 0)", INDEX, x -> x.output(16, 0));
    refused("!1; W0", "output(0, 0)", STATE, x -> x.output(0, 0));
    refused("!1", "output(0, 0)", MISSING, x -> x.output(0, 0));
    refused("!1;", "output(0, 1)", ARGUMENT, x -> x.output(0, 1));
    refused("!1;", "variable(16, 0)", INDEX, x -> x.variable(16, 0));
    refused("!1; W0", "variable(0, 0)", STATE, x -> x.variable(0, 0));
    refused("!1", "variable(0, 0)", MISSING, x -> x.variable(0, 0));
    refused("!1;", "variable(0, 4)", ARGUMENT, x -> x.variable(0, 4));
    refused("!1; W0", "behaviours()", STATE, VariantParser::behaviours);
  }

  private static void firstOfTheSource() {
    refused(FULL, "write(1e)", ARGUMENT, x -> x.write(Make.number("1e")));
    refused(FULL, "write(e1)", ARGUMENT, x -> x.write(Make.number("e1")));
    refused(FULL.substring(2), "write(11e)", ARGUMENT, x -> x.write(Make.number("11e")));
    refused(FULL, "when(4, true)", INDEX, x -> x.when(4, true));
    refused("W0W0W0W0W0", "when(4, true)", INDEX, x -> x.when(4, true));
    refused("W0W0W0W0W0" + Make.repeat("1", 75), "when(-1, true)", INDEX, x -> x.when(-1, true));
    refused(FULL, "set(4, true)", INDEX, x -> x.set(4, true));
    refused(FULL, "set(-1, false)", INDEX, x -> x.set(-1, false));
    refused("a W0", "replace(2, 'e')", INDEX, x -> x.replace(2, 'e'));
    refused("a W0", "replace(-1, 'e')", INDEX, x -> x.replace(-1, 'e'));
    refused("", "replace(0, 'e')", INDEX, x -> x.replace(0, 'e'));
    refused("a W0", "replace(1, 'e')", STATE, x -> x.replace(1, 'e'));
    refused("a W0", "replace(0, 'e')", ARGUMENT, x -> x.replace(0, 'e'));
  }

  private static void firstOfReading() {
    refused("!1; W0", "error(16)", INDEX, x -> x.error(16));
    refused("!1; W0", "error(-1)", INDEX, x -> x.error(-1));
    refused("!1; W0", "groups(4)", INDEX, x -> x.groups(4));
    refused("!1; W0", "groups(-1)", INDEX, x -> x.groups(-1));
    refused("!1; W0", "stack(16, 0)", INDEX, x -> x.stack(16, 0));
    refused("!1; W0", "stack(-1, 0)", INDEX, x -> x.stack(-1, 0));
    refused("!1; W0", "stack(0, 3)", INDEX, x -> x.stack(0, 3));
    refused("!1; W0", "stack(0, -1)", INDEX, x -> x.stack(0, -1));
    refused("!1; W0 2", "stack(0, 3)", INDEX, x -> x.stack(0, 3));
    refused("!1; W0 2", "stack(1, 3)", STATE, x -> x.stack(1, 3));
  }

  private static void firstOfRunning() {
    String[] unfinished = {"!1; W0", "! W0"};
    for (String notation : unfinished) {
      refused(notation, "outputs(16)", INDEX, x -> x.outputs(16));
      refused(notation, "output(16, 0)", INDEX, x -> x.output(16, 0));
      refused(notation, "output(16, 9)", INDEX, x -> x.output(16, 9));
      refused(notation, "variable(16, 0)", INDEX, x -> x.variable(16, 0));
      refused(notation, "variable(16, 4)", INDEX, x -> x.variable(16, 4));
      refused(notation, "outputs(0)", STATE, x -> x.outputs(0));
      refused(notation, "output(0, 9)", STATE, x -> x.output(0, 9));
      refused(notation, "output(0, -1)", STATE, x -> x.output(0, -1));
      refused(notation, "variable(0, 4)", STATE, x -> x.variable(0, 4));
    }
    refused("!", "outputs(16)", INDEX, x -> x.outputs(16));
    refused("!", "output(16, 9)", INDEX, x -> x.output(16, 9));
    refused("!", "output(0, 9)", MISSING, x -> x.output(0, 9));
    refused("!", "output(0, -1)", MISSING, x -> x.output(0, -1));
    refused("!", "variable(-1, 4)", INDEX, x -> x.variable(-1, 4));
    refused("!", "variable(0, 4)", MISSING, x -> x.variable(0, 4));
    refused("!", "variable(0, -1)", MISSING, x -> x.variable(0, -1));
    refused(FULL_AND_FINISHED, "output(-1, 26)", INDEX, x -> x.output(-1, 26));
    refused(FULL_AND_FINISHED, "output(0, 26)", ARGUMENT, x -> x.output(0, 26));
    refused(FULL_AND_FINISHED, "variable(16, 4)", INDEX, x -> x.variable(16, 4));
  }
}
