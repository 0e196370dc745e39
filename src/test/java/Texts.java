/** Terms that several tests use. */
final class Texts {
  static final String TWO = "(\\f.\\x.f (f x))";
  static final String THREE = "(\\f.\\x.f (f (f x)))";
  static final String FOUR = "(\\f.\\x.f (f (f (f x))))";
  static final String OMEGA = "((\\x.x x) (\\x.x x))";

  private Texts() {}

  /** So many abstractions that nothing is made of: a step and a letter each. */
  static String around(int abstractions, String text) {
    return "\\q.".repeat(abstractions) + text;
  }

  /** f (f (.. (f last))), so many times f. */
  static String nest(String f, int times, String last) {
    return (f + " (").repeat(times - 1) + f + " " + last + ")".repeat(times - 1);
  }

  /** A function whose innermost name has the index 1 + inner goes into outer arguments: by 1 + inner + outer, then back. */
  static String indexes(int outer, int inner) {
    return "\\f.(\\y." + nest("f", outer, "y") + ") (\\z." + nest("z", inner, "z") + ")";
  }

  static String padded(String text, int length) {
    return text + " ".repeat(length - text.length());
  }

  /** v applied to copies of v applied to copies of a function: few nodes with many steps and letters. */
  static String copies(int uses, int more, int binders, int names) {
    StringBuilder text = new StringBuilder("(\\d.\\s.d (d s)) (\\x.v");
    text.append(" x".repeat(uses)).append(" v".repeat(more)).append(") (");
    for (int k = 0; k < binders; k++) {
      text.append('\\').append((char) ('a' + k)).append('.');
    }
    for (int k = 0; k < names; k++) {
      text.append((char) ('a' + k)).append(' ');
    }
    return text.append(')').toString();
  }
}
