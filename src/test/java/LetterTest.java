/** Promise 7: letter. */
public final class LetterTest {
  public static void main(String[] args) {
    SharedLambda x = Checks.of("\\x.\\y.x y");
    Checks.due("no result yet", Checks.thrown(() -> x.letter(0)), "IndexOutOfBoundsException");
    x.run(0);
    String told = "\\\\(1 0)";
    for (int i = 0; i < told.length(); i++) {
      Checks.due("letter(" + i + ")", x.letter(i), told.charAt(i));
    }
    for (int i : new int[] {-1, told.length(), told.length() + 1, 4000, Integer.MAX_VALUE, Integer.MIN_VALUE}) {
      Checks.due("letter(" + i + ")", Checks.thrown(() -> x.letter(i)), "IndexOutOfBoundsException");
    }
    Checks.read(x, "\\x.x x x");
    Checks.due("a new term has none", Checks.thrown(() -> x.letter(0)), "IndexOutOfBoundsException");
    x.run(0);
    Checks.due("told anew", Checks.result(x), "\\((0 0) 0)");
    Checks.read(x, ")");
    Checks.due("a bad text leaves it", Checks.result(x), "\\((0 0) 0)");
    Checks.read(x, "(\\x.x) (\\y.y)");
    x.run(0);
    Checks.due("a run without fuel has none", Checks.thrown(() -> x.letter(0)), "IndexOutOfBoundsException");
    x.run(1);
    Checks.due("DONE has one", Checks.result(x).length(), x.count(6));
    numbers();
    Checks.end();
  }

  /** A variable is told in decimal, with more digits if need be. */
  private static void numbers() {
    for (int between : new int[] {0, 1, 9, 10, 11, 38}) {
      SharedLambda x = Checks.of("\\a." + "\\b.".repeat(between) + "a");
      x.run(0);
      Checks.due("between " + between, Checks.result(x), "\\".repeat(between + 1) + between);
    }
    // 4 to the 4th functions of nothing around a variable
    String four = "(\\f.\\p.f (f (f (f p))))";
    SharedLambda x = Checks.of("\\a." + four + four + "(\\u.\\v.u) a");
    Checks.due("run", x.run(100000), 0);
    Checks.due("three digits", Checks.result(x), "\\".repeat(257) + "256");
  }
}
