/**
 * Makes parsers from a notation: a token stands for itself, W2 for a WHEN of feature 2 for on, V2 for
 * off, O for an OTHERWISE, D for a DONE, S2 for a SET of feature 2 to on, C2 to off; spaces for nothing.
 */
final class Make {
  private Make() {}

  static VariantParser parser(String notation) {
    VariantParser parser = new VariantParser();
    append(parser, notation);
    return parser;
  }

  static void append(VariantParser parser, String notation) {
    for (int k = 0; k < notation.length(); k++) {
      char sign = notation.charAt(k);
      switch (sign) {
        case ' ':
          break;
        case 'O':
          parser.otherwise();
          break;
        case 'D':
          parser.done();
          break;
        case 'W':
        case 'V':
          k++;
          parser.when(notation.charAt(k) - '0', sign == 'W');
          break;
        case 'S':
        case 'C':
          k++;
          parser.set(notation.charAt(k) - '0', sign == 'S');
          break;
        default:
          parser.write(sign);
      }
    }
  }

  /** So many times the token 1, in few calls. */
  static VariantParser tokens(int count) {
    VariantParser parser = new VariantParser();
    for (int left = count; left > 0; left -= 8) {
      parser.write(number("11111111".substring(0, Math.min(left, 8))));
    }
    return parser;
  }

  /** The number whose bytes are these characters, the first one highest. */
  static long number(String characters) {
    long number = 0;
    for (int k = 0; k < characters.length(); k++) {
      number = number << 8 | characters.charAt(k);
    }
    return number;
  }

  static String repeat(String part, int times) {
    return part.repeat(times);
  }
}
