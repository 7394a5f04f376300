import java.util.ArrayList;
import java.util.HashSet;
import java.util.List;
import java.util.Set;

/**
 * Reads a source as the document's description says it, one configuration after the other and with
 * texts for stacks, to be compared with the parser: slow, and without limits.
 */
final class Reference {
  static final String TOKENS = "0123456789abcd+-*()=;{}?:!";

  /** As item() tells them. */
  private final List<Integer> items = new ArrayList<>();
  private final Walked[] walks = new Walked[16];
  private final ReadText[] readings = new ReadText[16];

  // ---- changes

  void append(int item) {
    items.add(item);
    forget();
  }

  void drop() {
    items.remove(items.size() - 1);
    forget();
  }

  void replace(int item, int token) {
    items.set(item, token);
    forget();
  }

  private void forget() {
    java.util.Arrays.fill(walks, null);
    java.util.Arrays.fill(readings, null);
  }

  // ---- items

  int size() {
    return items.size();
  }

  int item(int item) {
    return items.get(item);
  }

  boolean isToken(int item) {
    return items.get(item) > 17;
  }

  boolean canAppend(int item) {
    if (items.size() == 80) {
      return false;
    } else if (item < 8) {
      return unfinished() < 5;
    } else if (item == 16) {
      return unfinished() > 0 && !lastHasOtherwise();
    }
    return item != 17 || unfinished() > 0;
  }

  private boolean lastHasOtherwise() {
    List<Boolean> has = new ArrayList<>();
    for (int item : items) {
      if (item < 8) {
        has.add(false);
      } else if (item == 16) {
        has.set(has.size() - 1, true);
      } else if (item == 17) {
        has.remove(has.size() - 1);
      }
    }
    return has.get(has.size() - 1);
  }

  @Override
  public String toString() {
    return items.toString();
  }

  int presence(int item) {
    int set = 0;
    for (int c = 0; c < 16; c++) {
      if (walk(c).present.get(item)) {
        set |= 1 << c;
      }
    }
    return set;
  }

  int on(int feature, int item) {
    int set = 0;
    for (int c = 0; c < 16; c++) {
      if (walk(c).on.get(item)[feature]) {
        set |= 1 << c;
      }
    }
    return set;
  }

  int unfinished() {
    int count = 0;
    for (int item : items) {
      count += item < 8 ? 1 : item == 17 ? -1 : 0;
    }
    return count;
  }

  List<Integer> places(int configuration) {
    List<Integer> places = new ArrayList<>();
    List<Boolean> present = walk(configuration).present;
    for (int i = 0; i < items.size(); i++) {
      if (isToken(i) && present.get(i)) {
        places.add(i);
      }
    }
    return places;
  }

  String text(int configuration) {
    StringBuilder text = new StringBuilder();
    for (int i : places(configuration)) {
      text.append((char) (int) items.get(i));
    }
    return text.toString();
  }

  int variants() {
    Set<String> texts = new HashSet<>();
    for (int c = 0; c < 16; c++) {
      texts.add(text(c));
    }
    return texts.size();
  }

  int dead() {
    int count = 0;
    for (int i = 0; i < items.size(); i++) {
      count += isToken(i) && presence(i) == 0 ? 1 : 0;
    }
    return count;
  }

  int features(int configurations) {
    int sum = 0;
    for (int c = 0; c < 16; c++) {
      for (int e = 0; e < 16; e++) {
        boolean isDifferent = (configurations >> c) % 2 != (configurations >> e) % 2;
        if (isDifferent && Integer.bitCount(c ^ e) == 1) {
          sum |= c ^ e;
        }
      }
    }
    return sum;
  }

  /** The stacks ahead of the tokens that are read, the top first. */
  List<String> stacks(int configuration) {
    return read(configuration).stacks;
  }

  int error(int configuration) {
    int index = read(configuration).errorIndex;
    List<Integer> places = places(configuration);
    return index < 0 ? -1 : index == places.size() ? items.size() : places.get(index);
  }

  int groups(int item) {
    Set<String> stacks = new HashSet<>();
    for (int c = 0; c < 16; c++) {
      int index = places(c).indexOf(item);
      if (index >= 0 && index < stacks(c).size()) {
        stacks.add(stacks(c).get(index));
      }
    }
    return stacks.size();
  }

  int wrong() {
    int set = 0;
    for (int c = 0; c < 16; c++) {
      set |= error(c) >= 0 ? 1 << c : 0;
    }
    return set;
  }

  int firstError() {
    int least = -1;
    for (int c = 0; c < 16; c++) {
      int error = error(c);
      least = error >= 0 && (least < 0 || error < least) ? error : least;
    }
    return least;
  }

  int work() {
    int sum = 0;
    for (int i = 0; i < items.size(); i++) {
      sum += groups(i);
    }
    return sum;
  }

  double gain() {
    int read = 0;
    for (int c = 0; c < 16; c++) {
      read += stacks(c).size();
    }
    return work() == 0 ? 0.0 : (double) read / work();
  }

  int stack(int configuration, int index) {
    List<String> stacks = stacks(configuration);
    return index < stacks.size() ? stacks.get(index).length() : -1;
  }

  /** The variables behind the variant, and then the values that it writes. */
  int[] run(int configuration) {
    return new Runner(text(configuration)).run();
  }

  int[] outputs(int configuration) {
    int[] run = run(configuration);
    return java.util.Arrays.copyOfRange(run, 4, run.length);
  }

  int behaviours() {
    Set<String> written = new HashSet<>();
    for (int c = 0; c < 16; c++) {
      if (error(c) < 0) {
        written.add(java.util.Arrays.toString(outputs(c)));
      }
    }
    return written.size();
  }

  long digest() {
    List<Integer> numbers = new ArrayList<>();
    numbers.add(items.size());
    for (int i = 0; i < items.size(); i++) {
      numbers.add(items.get(i));
      numbers.add(presence(i));
    }
    for (int c = 0; c < 16 && unfinished() == 0; c++) {
      numbers.add(error(c));
      if (error(c) < 0) {
        numbers.add(outputs(c).length);
        for (int value : outputs(c)) {
          numbers.add(value);
        }
      }
    }
    java.math.BigInteger d = java.math.BigInteger.valueOf(139);
    for (int x : numbers) {
      d = d.multiply(java.math.BigInteger.valueOf(31)).add(java.math.BigInteger.valueOf(x));
    }
    return d.longValue();
  }

  private static final class Walked {
    final List<Boolean> present = new ArrayList<>();
    final List<boolean[]> on = new ArrayList<>();
  }

  private Walked walk(int configuration) {
    if (walks[configuration] == null) {
      walks[configuration] = walkOnce(configuration);
    }
    return walks[configuration];
  }

  private Walked walkOnce(int configuration) {
    Walked walked = new Walked();
    boolean[] on = new boolean[4];
    for (int f = 0; f < 4; f++) {
      on[f] = (configuration >> f) % 2 == 1;
    }
    List<Boolean> outer = new ArrayList<>();
    List<Boolean> chosen = new ArrayList<>();
    boolean isActive = true;
    for (int item : items) {
      walked.on.add(on.clone());
      int last = outer.size() - 1;
      walked.present.add(item == 16 || item == 17 ? outer.get(last) : isActive);
      if (item < 8) {
        boolean fits = on[item / 2] == (item % 2 == 1);
        outer.add(isActive);
        isActive = isActive && fits;
        chosen.add(isActive);
      } else if (item < 16) {
        if (isActive) {
          on[item / 2 - 4] = item % 2 == 1;
        }
      } else if (item == 16) {
        isActive = outer.get(last) && !chosen.get(last);
      } else if (item == 17) {
        isActive = outer.remove(last);
        chosen.remove(last);
      }
    }
    return walked;
  }

  private static final class ReadText {
    final List<String> stacks = new ArrayList<>();
    int errorIndex = -1;
  }

  private ReadText read(int configuration) {
    if (readings[configuration] == null) {
      readings[configuration] = readOnce(configuration);
    }
    return readings[configuration];
  }

  private ReadText readOnce(int configuration) {
    ReadText answer = new ReadText();
    String text = text(configuration) + "$";
    String stack = "P";
    for (int k = 0; k < text.length(); k++) {
      char token = text.charAt(k);
      if (token != '$') {
        answer.stacks.add(stack);
      }
      while (!stack.isEmpty() && "PSREQTUF".indexOf(stack.charAt(0)) >= 0) {
        String sequence = replace(stack.charAt(0), token);
        if (sequence == null) {
          answer.errorIndex = k;
          return answer;
        }
        stack = sequence + stack.substring(1);
      }
      if (token == '$' ? !stack.isEmpty() : stack.indexOf(token) != 0) {
        answer.errorIndex = k;
        return answer;
      }
      stack = token == '$' ? stack : stack.substring(1);
    }
    return answer;
  }

  private static String replace(char symbol, char token) {
    boolean isName = "abcd".indexOf(token) >= 0;
    boolean isDigit = "0123456789".indexOf(token) >= 0;
    if (symbol == 'P') {
      return isName || "{?!".indexOf(token) >= 0 ? "SP" : "";
    } else if (symbol == 'S') {
      return isName ? token + "=E;" : token == '{' ? "{P}" : token == '?' ? "?ESR"
          : token == '!' ? "!E;" : null;
    } else if (symbol == 'R') {
      return token == ':' ? ":S" : "";
    } else if (symbol == 'E') {
      return "TQ";
    } else if (symbol == 'Q') {
      return token == '+' ? "+TQ" : token == '-' ? "-TQ" : "";
    } else if (symbol == 'T') {
      return "FU";
    } else if (symbol == 'U') {
      return token == '*' ? "*FU" : "";
    }
    return isName || isDigit ? "" + token : token == '(' ? "(E)" : token == '-' ? "-F" : null;
  }

  /** Evaluates by cutting texts, from the right, at the operator that binds least. */
  private static final class Runner {
    private final String text;
    private int next = 0;
    private final java.math.BigInteger[] variables = new java.math.BigInteger[4];
    private final List<Integer> outputs = new ArrayList<>();

    Runner(String text) {
      this.text = text;
      java.util.Arrays.fill(variables, java.math.BigInteger.ZERO);
    }

    int[] run() {
      while (next < text.length()) {
        statement(true);
      }
      int[] answer = new int[4 + outputs.size()];
      for (int k = 0; k < answer.length; k++) {
        answer[k] = k < 4 ? variables[k].intValue() : outputs.get(k - 4);
      }
      return answer;
    }

    private void statement(boolean isDone) {
      char first = text.charAt(next++);
      if (first == '{') {
        while (text.charAt(next) != '}') {
          statement(isDone);
        }
        next++;
      } else if (first == '?') {
        int start = next;
        next = endOfExpression(start);
        boolean isChosen = value(text.substring(start, next)).intValue() != 0;
        statement(isDone && isChosen);
        if (next < text.length() && text.charAt(next) == ':') {
          next++;
          statement(isDone && !isChosen);
        }
      } else {
        int start = first == '!' ? next : next + 1;
        next = text.indexOf(';', start) + 1;
        java.math.BigInteger value = value(text.substring(start, next - 1));
        if (isDone && first == '!') {
          outputs.add(value.intValue());
        } else if (isDone) {
          variables[first - 'a'] = java.math.BigInteger.valueOf(value.intValue());
        }
      }
    }

    /** Behind an operand that no operator follows. */
    private int endOfExpression(int start) {
      int depth = 0;
      for (int k = start; k < text.length(); k++) {
        char sign = text.charAt(k);
        depth += sign == '(' ? 1 : sign == ')' ? -1 : 0;
        boolean isOperand = sign == ')' || Character.isLetterOrDigit(sign);
        if (depth == 0 && isOperand && "+-*".indexOf(text.charAt(k + 1)) < 0) {
          return k + 1;
        }
      }
      throw new IllegalStateException(text);
    }

    private java.math.BigInteger value(String e) {
      int cut = cut(e, "+-");
      if (cut > 0) {
        java.math.BigInteger left = value(e.substring(0, cut));
        java.math.BigInteger right = value(e.substring(cut + 1));
        return e.charAt(cut) == '+' ? left.add(right) : left.subtract(right);
      }
      cut = cut(e, "*");
      if (cut > 0) {
        return value(e.substring(0, cut)).multiply(value(e.substring(cut + 1)));
      }
      if (e.charAt(0) == '-') {
        return value(e.substring(1)).negate();
      }
      if (e.charAt(0) == '(') {
        return value(e.substring(1, e.length() - 1));
      }
      return Character.isDigit(e.charAt(0))
          ? java.math.BigInteger.valueOf(e.charAt(0) - '0') : variables[e.charAt(0) - 'a'];
    }

    /** The last of these operators that is in no brackets and stands behind an operand. */
    private static int cut(String e, String operators) {
      int depth = 0;
      for (int k = e.length() - 1; k > 0; k--) {
        char sign = e.charAt(k);
        depth += sign == ')' ? 1 : sign == '(' ? -1 : 0;
        char before = e.charAt(k - 1);
        boolean isBehindOperand = before == ')' || Character.isLetterOrDigit(before);
        if (depth == 0 && operators.indexOf(sign) >= 0 && isBehindOperand) {
          return k;
        }
      }
      return -1;
    }
  }
}
