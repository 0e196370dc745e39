/** What all tests share: comparing answers, typing texts, and telling how it ended. */
final class Checks {
  private static int checked = 0;
  private static int wrong = 0;

  private Checks() {}

  static void due(String what, long got, long want) {
    checked++;
    if (got != want) {
      wrong++;
      System.out.println(what + " answered " + got + ", due is " + want);
    }
  }

  static void due(String what, String got, String want) {
    checked++;
    if (!got.equals(want)) {
      wrong++;
      System.out.println(what + " answered " + got + ", due is " + want);
    }
  }

  /** Ends the test; a test that checked nothing fails. */
  static void end() {
    System.out.println(checked + " answers looked at, " + wrong + " not as due");
    if (wrong > 0 || checked == 0) {
      System.exit(1);
    }
  }

  interface Call {
    void call();
  }

  /** The name of the exception that a call throws, or "nothing". */
  static String thrown(Call call) {
    try {
      call.call();
    } catch (RuntimeException e) {
      return e.getClass().getSimpleName();
    }
    return "nothing";
  }

  /** Types a text behind the tape, eight bytes a call. */
  static void type(SharedLambda x, String text) {
    for (int from = 0; from < text.length(); from += 8) {
      int to = Math.min(from + 8, text.length());
      long bytes = 0;
      for (int k = from; k < to; k++) {
        bytes = bytes << 8 | text.charAt(k) & 255;
      }
      x.type(bytes, to - from);
    }
  }

  static int read(SharedLambda x, String text) {
    type(x, text);
    return x.read();
  }

  static SharedLambda of(String text) {
    SharedLambda x = new SharedLambda();
    if (read(x, text) < 0) {
      throw new IllegalStateException("fault in " + text);
    }
    return x;
  }

  static String result(SharedLambda x) {
    StringBuilder letters = new StringBuilder();
    for (int i = 0; i < x.count(6); i++) {
      letters.append((char) x.letter(i));
    }
    return letters.toString();
  }

  /** All that can be asked of an object, so that two states can be told apart. */
  static String state(SharedLambda x) {
    StringBuilder all = new StringBuilder();
    for (int what = 0; what <= 7; what++) {
      all.append(x.count(what)).append(' ');
    }
    for (int kind = 0; kind <= 5; kind++) {
      all.append(x.nodes(kind)).append(' ');
    }
    return all.append(result(x)).toString();
  }

  static String times(String text, int n) {
    return text.repeat(n);
  }
}
