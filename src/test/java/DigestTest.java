/** Promise 30: digest; the numbers that make it up are written out here. */
public final class DigestTest {
  private static final long ALL = 65535;

  private DigestTest() {}

  public static void main(String[] args) {
    ofAllAlike();
    ofDifferent();
    ofUnfinished();
    behindChanges();
    Check.end();
  }

  private static long mix(long start, long... numbers) {
    long d = start;
    for (long x : numbers) {
      d = d * 31 + x;
    }
    return d;
  }

  private static long mixTimes(long start, int times, long... numbers) {
    long d = start;
    for (int k = 0; k < times; k++) {
      d = mix(d, numbers);
    }
    return d;
  }

  private static void ofAllAlike() {
    long empty = mixTimes(mix(139, 0), 16, -1, 0);
    Check.equal("digest() when empty", new VariantParser().digest(), empty);
    long one = mix(139, 3, '!', ALL, '7', ALL, ';', ALL);
    Check.equal("digest() of !7;", Make.parser("!7;").digest(), mixTimes(one, 16, -1, 1, 7));
    long two = mix(139, 7, '!', ALL, '1', ALL, ';', ALL, '!', ALL, '-', ALL, '2', ALL, ';', ALL);
    Check.equal("digest() of !1;!-2;",
        Make.parser("!1;!-2;").digest(), mixTimes(two, 16, -1, 2, 1, -2));
    long wrong = mix(139, 2, '!', ALL, ')', ALL);
    Check.equal("digest() of an error", Make.parser("!)").digest(), mixTimes(wrong, 16, 1));
    long end = mix(139, 1, '!', ALL);
    Check.equal("digest() of an error at the end", Make.parser("!").digest(), mixTimes(end, 16, 1));
  }

  private static void ofDifferent() {
    VariantParser x = Make.parser("W0 !3; O V1 ; D D S2");
    long d = mix(139, 10, 1, ALL, '!', 43690, '3', 43690, ';', 43690, 16, ALL, 2, 21845,
        ';', 4369, 17, 21845, 17, ALL, 13, ALL);
    for (int c = 0; c < 16; c++) {
      if ((c & 1) != 0) {
        d = mix(d, -1, 1, 3);
      } else if ((c & 2) != 0) {
        d = mix(d, -1, 0);
      } else {
        d = mix(d, 6);
      }
    }
    Check.equal("digest() of 3 variants", x.digest(), d);
  }

  private static void ofUnfinished() {
    VariantParser x = Make.parser("!7; W3");
    long d = mix(139, 4, '!', ALL, '7', ALL, ';', ALL, 7, ALL);
    Check.equal("digest() when unfinished", x.digest(), d);
    x.done();
    d = mix(139, 5, '!', ALL, '7', ALL, ';', ALL, 7, ALL, 17, ALL);
    Check.equal("digest() when finished", x.digest(), mixTimes(d, 16, -1, 1, 7));
  }

  private static void behindChanges() {
    VariantParser x = Make.parser("!7;");
    long first = x.digest();
    Check.equal("digest() again", x.digest(), first);
    x.replace(1, '8');
    long d = mix(139, 3, '!', ALL, '8', ALL, ';', ALL);
    Check.equal("digest() behind replace()", x.digest(), mixTimes(d, 16, -1, 1, 8));
    x.write('b');
    x.drop();
    x.replace(1, '7');
    Check.equal("digest() behind drop()", x.digest(), first);
    Check.equal("digest() of another", Make.parser("!7;").digest(), first);
  }
}
