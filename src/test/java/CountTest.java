/** Promise 6: count. */
public final class CountTest {
  public static void main(String[] args) {
    wrong();
    meetings();
    erased();
    letters();
    faults();
    Checks.end();
  }

  private static void wrong() {
    SharedLambda x = new SharedLambda();
    for (int what : new int[] {-1, 8, 9, Integer.MAX_VALUE, Integer.MIN_VALUE}) {
      Checks.due("count(" + what + ")", Checks.thrown(() -> x.count(what)), "IndexOutOfBoundsException");
    }
    for (int what = 0; what <= 7; what++) {
      Checks.due("count(" + what + ")", x.count(what), what == 5 ? 3 : 0);
    }
  }

  private static void counts(SharedLambda x, String when, int... due) {
    for (int k = 0; k < due.length; k++) {
      Checks.due("count(" + (k + 1) + ") " + when, x.count(k + 1), due[k]);
    }
  }

  private static void meetings() {
    SharedLambda x = Checks.of("(\\x.x x) (\\y.y)");
    counts(x, "at first", 0, 0, 0, 0, 10, 0, 0);
    x.run(1);
    counts(x, "behind the first beta", 1, 0, 0, 0, 8, 0, 0);
    x.run(100);
    counts(x, "at the end", 2, 5, 10, 0, 3, 2, 0);
    Checks.read(x, "(\\f.\\x.f (f x)) (\\f.\\x.f (f x))");
    counts(x, "of the next term", 0, 0, 0, 0, 24, 0, 0);
    x.run(3000);
    counts(x, "at its end", 5, 12, 60, 0, 29, 19, 0);
    Checks.type(x, "abc");
    counts(x, "with a tape", 5, 12, 60, 0, 29, 19, 3);
  }

  private static void erased() {
    SharedLambda x = Checks.of("(\\x.\\y.y) ((\\x.x x) (\\x.x x))");
    counts(x, "before", 0, 0, 0, 0, 19, 0, 0);
    x.run(1);
    counts(x, "erasers are not counted", 1, 0, 0, 13, 3, 2, 0);
    x = Checks.of("(\\x.\\y.\\z.x z (y z)) (\\x.\\y.x) (\\x.\\y.x)");
    x.run(3000);
    counts(x, "of S K K", 4, 1, 3, 10, 7, 2, 0);
    Checks.due("an eraser is left", x.nodes(5), 1);
    x = Checks.of("(\\x.\\y.x) (\\z.z) ((\\x.x x x) (\\x.x x x))");
    x.run(3000);
    counts(x, "of K I omega", 2, 1, 2, 21, 3, 2, 0);
  }

  private static void letters() {
    SharedLambda x = Checks.of("\\x.x x");
    Checks.due("none before a run", x.count(6), 0);
    x.run(0);
    Checks.due("\\(0 0)", x.count(6), 6);
    Checks.read(x, "?");
    Checks.due("a bad text leaves them", x.count(6), 6);
    Checks.read(x, "(\\x.x) (\\x.x)");
    Checks.due("a good one takes them", x.count(6), 0);
    x.run(0);
    Checks.due("NO FUEL has none", x.count(6), 0);
    x.run(9);
    Checks.due("DONE has some", x.count(6), 2);
    Checks.due("a call that throws", Checks.thrown(() -> x.run(-1)), "IllegalArgumentException");
    Checks.due("leaves them", x.count(6), 2);
    Checks.read(x, "(\\x.x x) (\\x.x x)");
    x.run(9);
    Checks.due("the latest run was not DONE", x.count(6), 0);
  }

  private static void faults() {
    SharedLambda x = new SharedLambda();
    Checks.due("none was read", x.count(0), 0);
    String[] texts = {"(", "x", "(".repeat(41), "\\x." + "x ".repeat(80), "\\x.x"};
    int[] kinds = {1, 2, 3, 4, 0};
    for (int k = 0; k < texts.length; k++) {
      Checks.read(x, texts[k]);
      Checks.due("fault of " + texts[k], x.count(0), kinds[k]);
      x.run(1);
      Checks.due("a run leaves it", x.count(0), kinds[k]);
    }
  }
}
