import java.util.ArrayList;
import java.util.List;
import java.util.function.Consumer;

/**
 * The changes of one source, and the Reference of it: so one parser after the other can be made of
 * them, as none is used for more than 512 calls.
 */
final class History {
  final Reference want = new Reference();
  private final List<Consumer<VariantParser>> calls = new ArrayList<>();

  /** Appends what item() tells so, if that is possible. */
  void append(int item) {
    if (want.canAppend(item)) {
      want.append(item);
      calls.add(x -> append(x, item));
    }
  }

  static void append(VariantParser x, int item) {
    if (item > 17) {
      x.write(item);
    } else if (item == 17) {
      x.done();
    } else if (item == 16) {
      x.otherwise();
    } else if (item > 7) {
      x.set((item - 8) / 2, item % 2 == 1);
    } else {
      x.when(item / 2, item % 2 == 1);
    }
  }

  void drop() {
    want.drop();
    calls.add(VariantParser::drop);
  }

  void replace(int item, int token) {
    want.replace(item, token);
    calls.add(x -> x.replace(item, token));
  }

  /** Asks for all that can be found, so that the next change must not leave it as it is. */
  void look() {
    calls.add(VariantParser::digest);
  }

  VariantParser parser() {
    VariantParser x = new VariantParser();
    for (Consumer<VariantParser> call : calls) {
      call.accept(x);
    }
    return x;
  }
}
