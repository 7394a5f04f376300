/**
 * A parser for source text with conditional parts. The text stands for many variants at once, one
 * for each configuration of its features; it tells for each of them whether it is well-formed, where
 * the first error is and what it does, and how much the variants have in common while they are read.
 */
public final class VariantParser {
  private static final int FEATURES = 4;
  private static final int CONFIGURATIONS = 16;
  private static final int ALL_CONFIGURATIONS = 65535;
  private static final int MAX_ITEMS = 80;
  private static final int MAX_UNFINISHED = 5;
  private static final int VARIABLES = 4;
  private static final int NONE = -1;
  private static final int BITS_OF_A_BYTE = 8;
  private static final int HIGHEST_BYTE = 56;
  private static final long DIGEST_START = 139;
  private static final long DIGEST_FACTOR = 31;

  private final Source source;
  private final Walk walk;
  private final Variant[] variantOf;
  private final int[] groupCounts;
  /** Whether walk, variantOf and groupCounts tell of the source as it is now. */
  private boolean isFresh;

  public VariantParser() {
    source = new Source();
    walk = new Walk();
    variantOf = new Variant[CONFIGURATIONS];
    for (int c = 0; c < CONFIGURATIONS; c++) {
      variantOf[c] = new Variant();
    }
    groupCounts = new int[MAX_ITEMS];
    isFresh = false;
  }

  // ---- source

  public int write(long characters) throws IllegalArgumentException, IllegalStateException {
    int count = 0;
    for (int shift = HIGHEST_BYTE; shift >= 0; shift -= BITS_OF_A_BYTE) {
      int character = byteOf(characters, shift);
      if (character != 0) {
        if (!Grammar.isToken(character)) {
          throw new IllegalArgumentException("a byte is no token");
        }
        count++;
      }
    }
    if (source.size + count > MAX_ITEMS) {
      throw new IllegalStateException("too many items");
    }
    for (int shift = HIGHEST_BYTE; shift >= 0; shift -= BITS_OF_A_BYTE) {
      int character = byteOf(characters, shift);
      if (character != 0) {
        append(character);
      }
    }
    return source.size;
  }

  public int when(int feature, boolean isOn)
      throws IndexOutOfBoundsException, IllegalStateException {
    checkFeature(feature);
    checkRoom();
    if (source.countUnfinished() >= MAX_UNFINISHED) {
      throw new IllegalStateException("too many WHENs that are not finished");
    }
    return append(Source.codeOfWhen(feature, isOn));
  }

  public int otherwise() throws IllegalStateException {
    checkRoom();
    checkUnfinished();
    if (source.lastUnfinishedHasOtherwise()) {
      throw new IllegalStateException("the WHEN has an OTHERWISE");
    }
    return append(Source.OTHERWISE);
  }

  public int done() throws IllegalStateException {
    checkRoom();
    checkUnfinished();
    return append(Source.DONE);
  }

  public int set(int feature, boolean isOn)
      throws IndexOutOfBoundsException, IllegalStateException {
    checkFeature(feature);
    checkRoom();
    return append(Source.codeOfSet(feature, isOn));
  }

  public int drop() throws IllegalStateException {
    if (source.size == 0) {
      throw new IllegalStateException("there is no item");
    }
    source.removeLast();
    isFresh = false;
    return source.size;
  }

  public int replace(int item, int character)
      throws IndexOutOfBoundsException, IllegalStateException, IllegalArgumentException {
    checkItem(item);
    int before = source.codes[item];
    if (!Grammar.isToken(before)) {
      throw new IllegalStateException("the item is no token");
    }
    if (!Grammar.isToken(character)) {
      throw new IllegalArgumentException("the character is no token");
    }
    source.codes[item] = character;
    isFresh = false;
    return before;
  }

  public int size() {
    return source.size;
  }

  public int item(int item) throws IndexOutOfBoundsException {
    checkItem(item);
    return source.codes[item];
  }

  public int unfinished() {
    return source.countUnfinished();
  }

  // ---- presence

  public int presence(int item) throws IndexOutOfBoundsException {
    checkItem(item);
    refresh();
    return walk.present[item];
  }

  public int on(int feature, int item) throws IndexOutOfBoundsException {
    checkFeature(feature);
    checkItem(item);
    refresh();
    return walk.onAhead[feature][item];
  }

  public int features(int configurations) throws IllegalArgumentException {
    if (configurations < 0 || configurations > ALL_CONFIGURATIONS) {
      throw new IllegalArgumentException("no set of configurations");
    }
    int mattering = 0;
    for (int f = 0; f < FEATURES; f++) {
      if (matters(f, configurations)) {
        mattering |= 1 << f;
      }
    }
    return mattering;
  }

  public int dead() {
    refresh();
    int count = 0;
    for (int i = 0; i < source.size; i++) {
      if (Grammar.isToken(source.codes[i]) && walk.present[i] == 0) {
        count++;
      }
    }
    return count;
  }

  public int length(int configuration) throws IndexOutOfBoundsException {
    checkConfiguration(configuration);
    refresh();
    return variantOf[configuration].count;
  }

  public int place(int configuration, int index) throws IndexOutOfBoundsException {
    checkConfiguration(configuration);
    refresh();
    checkIndex(configuration, index);
    return variantOf[configuration].places[index];
  }

  public int variants() {
    refresh();
    int count = 0;
    for (int c = 0; c < CONFIGURATIONS; c++) {
      if (isFirstOfItsText(c)) {
        count++;
      }
    }
    return count;
  }

  // ---- reading

  public int error(int configuration) throws IndexOutOfBoundsException, IllegalStateException {
    checkConfiguration(configuration);
    checkFinished();
    refresh();
    return variantOf[configuration].reading.errorPlace;
  }

  public int wrong() throws IllegalStateException {
    checkFinished();
    refresh();
    int set = 0;
    for (int c = 0; c < CONFIGURATIONS; c++) {
      if (variantOf[c].reading.errorPlace != NONE) {
        set |= 1 << c;
      }
    }
    return set;
  }

  public int firstError() throws IllegalStateException {
    checkFinished();
    refresh();
    int least = NONE;
    for (int c = 0; c < CONFIGURATIONS; c++) {
      int place = variantOf[c].reading.errorPlace;
      if (place != NONE && (least == NONE || place < least)) {
        least = place;
      }
    }
    return least;
  }

  public int groups(int item) throws IndexOutOfBoundsException, IllegalStateException {
    checkItem(item);
    checkFinished();
    refresh();
    return groupCounts[item];
  }

  public int work() throws IllegalStateException {
    checkFinished();
    refresh();
    return sumOfGroups();
  }

  public double gain() throws IllegalStateException {
    checkFinished();
    refresh();
    int sum = sumOfGroups();
    if (sum == 0) {
      return 0.0;
    }
    int readOneByOne = 0;
    for (int c = 0; c < CONFIGURATIONS; c++) {
      readOneByOne += variantOf[c].reading.tokensRead;
    }
    return (double) readOneByOne / (double) sum;
  }

  public int stack(int configuration, int index)
      throws IndexOutOfBoundsException, IllegalStateException {
    checkConfiguration(configuration);
    refresh();
    checkIndex(configuration, index);
    checkFinished();
    return variantOf[configuration].reading.heightAhead(index);
  }

  // ---- running

  public int outputs(int configuration)
      throws IndexOutOfBoundsException, IllegalStateException, java.util.NoSuchElementException {
    checkConfiguration(configuration);
    checkFinished();
    refresh();
    checkNoError(configuration);
    return variantOf[configuration].run.outputCount;
  }

  public int output(int configuration, int index)
      throws IndexOutOfBoundsException, IllegalStateException, java.util.NoSuchElementException,
          IllegalArgumentException {
    checkConfiguration(configuration);
    checkFinished();
    refresh();
    checkNoError(configuration);
    Run run = variantOf[configuration].run;
    if (index < 0 || index >= run.outputCount) {
      throw new IllegalArgumentException("there is no such value");
    }
    return run.outputs[index];
  }

  public int variable(int configuration, int variable)
      throws IndexOutOfBoundsException, IllegalStateException, java.util.NoSuchElementException,
          IllegalArgumentException {
    checkConfiguration(configuration);
    checkFinished();
    refresh();
    checkNoError(configuration);
    if (variable < 0 || variable >= VARIABLES) {
      throw new IllegalArgumentException("there is no such variable");
    }
    return variantOf[configuration].run.variables[variable];
  }

  public int behaviours() throws IllegalStateException {
    checkFinished();
    refresh();
    int count = 0;
    for (int c = 0; c < CONFIGURATIONS; c++) {
      if (variantOf[c].reading.errorPlace == NONE && isFirstOfItsBehaviour(c)) {
        count++;
      }
    }
    return count;
  }

  public long digest() {
    refresh();
    long d = mix(DIGEST_START, source.size);
    for (int i = 0; i < source.size; i++) {
      d = mix(d, source.codes[i]);
      d = mix(d, walk.present[i]);
    }
    if (source.countUnfinished() == 0) {
      for (int c = 0; c < CONFIGURATIONS; c++) {
        d = mixVariant(d, variantOf[c]);
      }
    }
    return d;
  }

  // ---- checks

  private void checkFeature(int feature) {
    if (feature < 0 || feature >= FEATURES) {
      throw new IndexOutOfBoundsException("there is no such feature");
    }
  }

  private void checkItem(int item) {
    if (item < 0 || item >= source.size) {
      throw new IndexOutOfBoundsException("there is no such item");
    }
  }

  private void checkConfiguration(int configuration) {
    if (configuration < 0 || configuration >= CONFIGURATIONS) {
      throw new IndexOutOfBoundsException("there is no such configuration");
    }
  }

  private void checkIndex(int configuration, int index) {
    if (index < 0 || index >= variantOf[configuration].count) {
      throw new IndexOutOfBoundsException("there is no such index");
    }
  }

  private void checkRoom() {
    if (source.size >= MAX_ITEMS) {
      throw new IllegalStateException("too many items");
    }
  }

  private void checkUnfinished() {
    if (source.countUnfinished() == 0) {
      throw new IllegalStateException("there is no WHEN that is not finished");
    }
  }

  private void checkFinished() {
    if (source.countUnfinished() != 0) {
      throw new IllegalStateException("a WHEN is not finished");
    }
  }

  private void checkNoError(int configuration) {
    if (variantOf[configuration].reading.errorPlace != NONE) {
      throw new java.util.NoSuchElementException("the variant has an error");
    }
  }

  // ---- how the answers are found

  private static int byteOf(long number, int shift) {
    return (int) (number >>> shift) & 255;
  }

  private int append(int code) {
    source.add(code);
    isFresh = false;
    return source.size;
  }

  private static boolean matters(int feature, int configurations) {
    for (int c = 0; c < CONFIGURATIONS; c++) {
      int other = c ^ (1 << feature);
      if ((configurations >> c & 1) != (configurations >> other & 1)) {
        return true;
      }
    }
    return false;
  }

  private void refresh() {
    if (isFresh) {
      return;
    }
    walk.goThrough(source);
    collectVariants();
    if (source.countUnfinished() == 0) {
      readAll();
      runAll();
    }
    isFresh = true;
  }

  private void collectVariants() {
    for (int c = 0; c < CONFIGURATIONS; c++) {
      Variant variant = variantOf[c];
      variant.count = 0;
      for (int i = 0; i < source.size; i++) {
        if (Grammar.isToken(source.codes[i]) && walk.isPresent(i, c)) {
          variant.add(source.codes[i], i);
        }
      }
    }
  }

  /** Reads all variants side by side, since the groups compare their stacks at the same token. */
  private void readAll() {
    for (int c = 0; c < CONFIGURATIONS; c++) {
      variantOf[c].reading.begin();
    }
    for (int i = 0; i < source.size; i++) {
      groupCounts[i] = 0;
      if (Grammar.isToken(source.codes[i])) {
        groupCounts[i] = countGroups(i);
        for (int c = 0; c < CONFIGURATIONS; c++) {
          if (isReadBy(c, i)) {
            variantOf[c].reading.take(source.codes[i], i);
          }
        }
      }
    }
    for (int c = 0; c < CONFIGURATIONS; c++) {
      variantOf[c].reading.end(source.size);
    }
  }

  private void runAll() {
    for (int c = 0; c < CONFIGURATIONS; c++) {
      if (variantOf[c].reading.errorPlace == NONE) {
        variantOf[c].run.execute(variantOf[c].tokens, variantOf[c].count);
      }
    }
  }

  private boolean isReadBy(int configuration, int token) {
    return walk.isPresent(token, configuration)
        && variantOf[configuration].reading.errorPlace == NONE;
  }

  private int countGroups(int item) {
    int count = 0;
    for (int c = 0; c < CONFIGURATIONS; c++) {
      if (isReadBy(c, item) && isFirstOfItsGroup(c, item)) {
        count++;
      }
    }
    return count;
  }

  private boolean isFirstOfItsGroup(int configuration, int item) {
    Reading reading = variantOf[configuration].reading;
    for (int c = 0; c < configuration; c++) {
      if (isReadBy(c, item) && reading.hasSameStack(variantOf[c].reading)) {
        return false;
      }
    }
    return true;
  }

  private boolean isFirstOfItsText(int configuration) {
    for (int c = 0; c < configuration; c++) {
      if (variantOf[configuration].hasSameTokens(variantOf[c])) {
        return false;
      }
    }
    return true;
  }

  private boolean isFirstOfItsBehaviour(int configuration) {
    Run run = variantOf[configuration].run;
    for (int c = 0; c < configuration; c++) {
      if (variantOf[c].reading.errorPlace == NONE && run.hasSameOutputs(variantOf[c].run)) {
        return false;
      }
    }
    return true;
  }

  private int sumOfGroups() {
    int sum = 0;
    for (int i = 0; i < source.size; i++) {
      sum += groupCounts[i];
    }
    return sum;
  }

  private static long mix(long d, long number) {
    return d * DIGEST_FACTOR + number;
  }

  private static long mixVariant(long start, Variant variant) {
    long d = mix(start, variant.reading.errorPlace);
    if (variant.reading.errorPlace == NONE) {
      Run run = variant.run;
      d = mix(d, run.outputCount);
      for (int k = 0; k < run.outputCount; k++) {
        d = mix(d, run.outputs[k]);
      }
    }
    return d;
  }

  /** The items: a token is held as its character, a directive as a number below all characters. */
  private static final class Source {
    static final int FIRST_SET = 8;
    static final int OTHERWISE = 16;
    static final int DONE = 17;

    final int[] codes = new int[MAX_ITEMS];
    int size;

    static int codeOfWhen(int feature, boolean isOn) {
      return 2 * feature + (isOn ? 1 : 0);
    }

    static int codeOfSet(int feature, boolean isOn) {
      return FIRST_SET + codeOfWhen(feature, isOn);
    }

    static boolean isWhen(int code) {
      return code >= 0 && code < FIRST_SET;
    }

    static boolean isSet(int code) {
      return code >= FIRST_SET && code < OTHERWISE;
    }

    /** The feature of a WHEN or a SET. */
    static int featureOf(int code) {
      return code % FIRST_SET / 2;
    }

    /** Whether a WHEN or a SET is for on. */
    static boolean isForOn(int code) {
      return code % 2 == 1;
    }

    void add(int code) {
      if (size < MAX_ITEMS) {
        codes[size] = code;
        size++;
      }
    }

    void removeLast() {
      if (size > 0) {
        size--;
      }
    }

    int countUnfinished() {
      int count = 0;
      for (int i = 0; i < size; i++) {
        if (isWhen(codes[i])) {
          count++;
        } else if (codes[i] == DONE) {
          count--;
        }
      }
      return count;
    }

    /** Looks from the end on for an OTHERWISE that is not within a WHEN that is finished. */
    boolean lastUnfinishedHasOtherwise() {
      int finished = 0;
      for (int i = size - 1; i >= 0; i--) {
        int code = codes[i];
        if (code == DONE) {
          finished++;
        } else if (finished == 0 && (code == OTHERWISE || isWhen(code))) {
          return code == OTHERWISE;
        } else if (isWhen(code)) {
          finished--;
        }
      }
      return false;
    }
  }

  /** For each item the configurations in which it is present, and those with a feature on. */
  private static final class Walk {
    /** For each feature f the configurations whose number holds 2^f. */
    private static final int[] ON_AT_FIRST = {0xAAAA, 0xCCCC, 0xF0F0, 0xFF00};

    final int[] present = new int[MAX_ITEMS];
    final int[][] onAhead = new int[FEATURES][MAX_ITEMS];
    private final int[] on = new int[FEATURES];
    private final int[] activeAheadOfWhen = new int[MAX_UNFINISHED];
    private final int[] activeAtOtherwise = new int[MAX_UNFINISHED];
    private int active;
    private int depth;

    boolean isPresent(int item, int configuration) {
      return (present[item] >> configuration & 1) == 1;
    }

    void goThrough(Source source) {
      active = ALL_CONFIGURATIONS;
      depth = 0;
      for (int f = 0; f < FEATURES; f++) {
        on[f] = ON_AT_FIRST[f];
      }
      for (int i = 0; i < source.size; i++) {
        for (int f = 0; f < FEATURES; f++) {
          onAhead[f][i] = on[f];
        }
        present[i] = active;
        step(source.codes[i], i);
      }
    }

    private void step(int code, int item) {
      if (Source.isWhen(code)) {
        enter(code);
      } else if (Source.isSet(code)) {
        turn(code);
      } else if (depth > 0 && depth <= MAX_UNFINISHED) {
        if (code == Source.OTHERWISE) {
          present[item] = activeAheadOfWhen[depth - 1];
          active = activeAtOtherwise[depth - 1];
        } else if (code == Source.DONE) {
          present[item] = activeAheadOfWhen[depth - 1];
          active = activeAheadOfWhen[depth - 1];
          depth--;
        }
      }
    }

    private void enter(int code) {
      if (depth < 0 || depth >= MAX_UNFINISHED) {
        return;
      }
      int chosen = on[Source.featureOf(code)];
      if (!Source.isForOn(code)) {
        chosen = ~chosen;
      }
      activeAheadOfWhen[depth] = active;
      activeAtOtherwise[depth] = active & ~chosen;
      active &= chosen;
      depth++;
    }

    private void turn(int code) {
      int feature = Source.featureOf(code);
      if (Source.isForOn(code)) {
        on[feature] |= active;
      } else {
        on[feature] &= ~active;
      }
    }
  }

  /** For rows of which only the beginning is in use. */
  private static final class Rows {
    /** From the last number on, as two stacks differ at their tops sooner than at their bottoms. */
    static boolean areSame(int[] row, int[] other, int count) {
      for (int k = Math.min(count, Math.min(row.length, other.length)) - 1; k >= 0; k--) {
        if (row[k] != other[k]) {
          return false;
        }
      }
      return true;
    }
  }

  /** The tokens of one configuration, how they are read, and what they do. */
  private static final class Variant {
    final int[] tokens = new int[MAX_ITEMS];
    final int[] places = new int[MAX_ITEMS];
    int count;
    final Reading reading = new Reading();
    final Run run = new Run();

    void add(int token, int place) {
      if (count < MAX_ITEMS) {
        tokens[count] = token;
        places[count] = place;
        count++;
      }
    }

    boolean hasSameTokens(Variant other) {
      return count == other.count && Rows.areSame(tokens, other.tokens, count);
    }
  }

  /** The tokens, and the sequences that replace the symbols that are no tokens. */
  private static final class Grammar {
    /** What stands behind the last token. */
    static final int END = 0;
    static final int FIRST_SYMBOL = 'P';
    /** Stands in a sequence for the token that is read. */
    static final int SAME_TOKEN = '#';

    static boolean isDigit(int character) {
      return character >= '0' && character <= '9';
    }

    static boolean isName(int character) {
      return character >= 'a' && character <= 'd';
    }

    static boolean isToken(int character) {
      switch (character) {
        case '+':
        case '-':
        case '*':
        case '(':
        case ')':
        case '=':
        case ';':
        case '{':
        case '}':
        case '?':
        case ':':
        case '!':
          return true;
        default:
          return isDigit(character) || isName(character);
      }
    }

    /** Whether a symbol of a stack is none of the tokens: these are written as capital letters. */
    static boolean isReplaced(int symbol) {
      return symbol >= 'A' && symbol <= 'Z';
    }

    static boolean canBeginStatement(int token) {
      switch (token) {
        case 'a':
        case 'b':
        case 'c':
        case 'd':
        case '{':
        case '?':
        case '!':
          return true;
        default:
          return false;
      }
    }

    /** The sequence that replaces a symbol, its first one first; null if it is an error. */
    static String replacement(int symbol, int token) {
      switch (symbol) {
        case 'P':
          return canBeginStatement(token) ? "SP" : "";
        case 'S':
          if (token == '{') {
            return "{P}";
          }
          if (token == '?') {
            return "?ESR";
          }
          if (token == '!') {
            return "!E;";
          }
          return isName(token) ? "#=E;" : null;
        case 'R':
          return token == ':' ? ":S" : "";
        case 'E':
          return "TQ";
        case 'Q':
          if (token == '+') {
            return "+TQ";
          }
          return token == '-' ? "-TQ" : "";
        case 'T':
          return "FU";
        case 'U':
          return token == '*' ? "*FU" : "";
        case 'F':
          if (token == '(') {
            return "(E)";
          }
          if (token == '-') {
            return "-F";
          }
          return isDigit(token) || isName(token) ? "#" : null;
        default:
          return null;
      }
    }
  }

  /** One variant on its way through the stack of symbols. */
  private static final class Reading {
    /** A token leaves at most 3 symbols more than it finds, and needs 1 more in between. */
    private static final int MAX_HEIGHT = 4 * MAX_ITEMS;
    /** A token replaces each symbol that it finds, and at most 4 that come in their place. */
    private static final int MAX_STEPS = 2 * MAX_HEIGHT;

    private final int[] symbols = new int[MAX_HEIGHT];
    private int height;
    private final int[] heights = new int[MAX_ITEMS];
    /** The tokens ahead of the error, and the one at it. */
    int tokensRead;
    int errorPlace;

    void begin() {
      height = 0;
      push(Grammar.FIRST_SYMBOL);
      tokensRead = 0;
      errorPlace = NONE;
    }

    void take(int token, int place) {
      if (tokensRead < MAX_ITEMS) {
        heights[tokensRead] = height;
        tokensRead++;
      }
      replaceTop(token);
      if (height > 0 && symbols[height - 1] == token) {
        height--;
      } else {
        errorPlace = place;
      }
    }

    void end(int place) {
      if (errorPlace == NONE) {
        replaceTop(Grammar.END);
        if (height != 0) {
          errorPlace = place;
        }
      }
    }

    int heightAhead(int index) {
      return index >= 0 && index < tokensRead ? heights[index] : NONE;
    }

    boolean hasSameStack(Reading other) {
      return height == other.height && Rows.areSame(symbols, other.symbols, height);
    }

    /** Goes on until the top is a token; at an error it leaves a top that is none. */
    private void replaceTop(int token) {
      for (int step = 0; step < MAX_STEPS && height > 0; step++) {
        int top = symbols[height - 1];
        if (!Grammar.isReplaced(top)) {
          return;
        }
        String sequence = Grammar.replacement(top, token);
        if (sequence == null) {
          return;
        }
        height--;
        for (int k = sequence.length() - 1; k >= 0; k--) {
          int symbol = sequence.charAt(k);
          push(symbol == Grammar.SAME_TOKEN ? token : symbol);
        }
      }
    }

    private void push(int symbol) {
      if (height < MAX_HEIGHT) {
        symbols[height] = symbol;
        height++;
      }
    }
  }

  /** What a variant without an error does; as the reading let it pass, no token is looked for. */
  private static final class Run {
    /** Each level of statements and brackets takes two tokens of its own. */
    private static final int MAX_DEPTH = MAX_ITEMS / 2;

    private final int[] tokens = new int[MAX_ITEMS];
    private int count;
    private int next;
    final int[] variables = new int[VARIABLES];
    final int[] outputs = new int[MAX_ITEMS];
    int outputCount;

    void execute(int[] text, int length) {
      count = Math.min(length, Math.min(text.length, MAX_ITEMS));
      for (int k = 0; k < count; k++) {
        tokens[k] = text[k];
      }
      next = 0;
      outputCount = 0;
      for (int v = 0; v < VARIABLES; v++) {
        variables[v] = 0;
      }
      runStatements(true, 0);
    }

    boolean hasSameOutputs(Run other) {
      return outputCount == other.outputCount && Rows.areSame(outputs, other.outputs, outputCount);
    }

    private int peek() {
      return next >= 0 && next < count ? tokens[next] : Grammar.END;
    }

    private int advance() {
      int token = peek();
      if (next < count) {
        next++;
      }
      return token;
    }

    private void runStatements(boolean isLive, int depth) {
      for (int k = 0; k < MAX_ITEMS && Grammar.canBeginStatement(peek()); k++) {
        runStatement(isLive, depth);
      }
    }

    /** A statement that is not live is passed over: its values are found, but go nowhere. */
    private void runStatement(boolean isLive, int depth) {
      if (depth > MAX_DEPTH) {
        return;
      }
      int token = advance();
      if (token == '{') {
        runStatements(isLive, depth + 1);
        advance();
      } else if (token == '?') {
        runChoice(isLive, depth + 1);
      } else if (token == '!') {
        int value = sum(depth);
        advance();
        if (isLive) {
          put(value);
        }
      } else {
        advance();
        int value = sum(depth);
        advance();
        if (isLive) {
          assign(token, value);
        }
      }
    }

    private void runChoice(boolean isLive, int depth) {
      boolean isTrue = sum(depth) != 0;
      runStatement(isLive && isTrue, depth);
      if (peek() == ':') {
        advance();
        runStatement(isLive && !isTrue, depth);
      }
    }

    private int sum(int depth) {
      int value = product(depth);
      for (int k = 0; k < MAX_ITEMS && (peek() == '+' || peek() == '-'); k++) {
        if (advance() == '+') {
          value += product(depth);
        } else {
          value -= product(depth);
        }
      }
      return value;
    }

    private int product(int depth) {
      int value = factor(depth);
      for (int k = 0; k < MAX_ITEMS && peek() == '*'; k++) {
        advance();
        value *= factor(depth);
      }
      return value;
    }

    private int factor(int depth) {
      boolean isNegative = false;
      for (int k = 0; k < MAX_ITEMS && peek() == '-'; k++) {
        advance();
        isNegative = !isNegative;
      }
      int value = operand(depth);
      return isNegative ? -value : value;
    }

    private int operand(int depth) {
      int token = advance();
      if (Grammar.isDigit(token)) {
        return token - '0';
      }
      if (Grammar.isName(token)) {
        return variables[token - 'a'];
      }
      if (depth > MAX_DEPTH) {
        return 0;
      }
      int value = sum(depth + 1);
      advance();
      return value;
    }

    private void assign(int name, int value) {
      if (Grammar.isName(name)) {
        variables[name - 'a'] = value;
      }
    }

    private void put(int value) {
      if (outputCount < MAX_ITEMS) {
        outputs[outputCount] = value;
        outputCount++;
      }
    }
  }
}
