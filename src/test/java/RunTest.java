/** Promise 5: what run answers, and what it leaves. */
public final class RunTest {
  private static final String TWO = "(\\f.\\x.f (f x))";
  private static final String THREE = "(\\f.\\x.f (f (f x)))";
  private static final String FOUR = "(\\f.\\x.f (f (f (f x))))";
  private static final String OMEGA = "((\\x.x x) (\\x.x x))";

  public static void main(String[] args) {
    results();
    wrongFuel();
    fuel();
    parts();
    onlyWhereAskedFor();
    noRoom();
    tooManySteps();
    tooManyLetters();
    aMeetingIsAStep();
    Checks.end();
  }

  private static void result(String text, String told) {
    SharedLambda x = Checks.of(text);
    Checks.due("run of " + text, x.run(100000), 0);
    Checks.due("result of " + text, Checks.result(x), told);
  }

  private static void results() {
    result("\\x.\\y.x y", "\\\\(1 0)");
    result("(\\x.x) (\\y.y)", "\\0");
    result("(\\x.x x) (\\y.y)", "\\0");
    result(TWO + TWO, "\\\\(1 (1 (1 (1 0))))");
    result("(\\x.\\y.\\z.x z (y z)) (\\x.\\y.x) (\\x.\\y.x)", "\\0");
    result("(\\x.\\y.x) (\\z.z)" + OMEGA, "\\0");
    result("\\y.(\\x.\\z.x) y", "\\\\1");
    result("\\a.\\b.(\\f.f (f a)) (\\x.x b)", "\\\\((1 0) 0)");
    result("(\\n.\\f.\\x.n (\\g.\\h.h (g f)) (\\u.x) (\\u.u))" + THREE, "\\\\(1 (1 0))");
    result("(\\m.\\n.\\f.\\x.m f (n f x))" + TWO + THREE, "\\\\(1 (1 (1 (1 (1 0)))))");
    result("\\x.".repeat(12) + "x", "\\".repeat(12) + "0");
    result("\\y." + "\\x.".repeat(11) + "y", "\\".repeat(12) + "11");
    result("\\y." + "\\x.".repeat(10) + "y y", "\\".repeat(11) + "(10 10)");
    manyLevels();
  }

  /** Many abstractions of a high index, whose levels are all kept, and one that is read around itself. */
  private static void manyLevels() {
    String text = "\\w." + "w (".repeat(20) + "\\g." + TWO + "(\\x.\\z.w (\\y." + FOUR + FOUR
        + "(\\u.\\v.u) (x (z y)))) g" + ")".repeat(20);
    result(text, PlainReducer.normal(new PlainModel().parse(text), 100000));
  }

  private static void wrongFuel() {
    SharedLambda x = Checks.of("(\\x.x) (\\y.y)");
    x.run(1);
    String before = Checks.state(x);
    for (int fuel : new int[] {-1, 100001, Integer.MAX_VALUE, Integer.MIN_VALUE}) {
      Checks.due("run(" + fuel + ")", Checks.thrown(() -> x.run(fuel)), "IllegalArgumentException");
    }
    Checks.due("nothing changed", Checks.state(x), before);
    Checks.due("the most fuel", x.run(100000), 0);
    Checks.due("the least", x.run(0), 0);
  }

  private static int meetings(SharedLambda x) {
    return x.count(1) + x.count(2) + x.count(3);
  }

  private static void fuel() {
    SharedLambda x = Checks.of(TWO + TWO);
    x.run(100000);
    int needed = meetings(x);
    Checks.due("77 meetings", needed, 77);
    SharedLambda less = Checks.of(TWO + TWO);
    Checks.due("one less", less.run(needed - 1), 1);
    Checks.due("all of it is used", meetings(less), needed - 1);
    Checks.due("no result", less.count(6), 0);
    Checks.due("no fuel for the last", less.run(0), 1);
    Checks.due("and it stays", meetings(less), needed - 1);
    Checks.due("the last", less.run(1), 0);
    Checks.due("the same in the end", Checks.state(less), Checks.state(x));
    SharedLambda exact = Checks.of(TWO + TWO);
    Checks.due("just enough", exact.run(needed), 0);
    Checks.due("the same", Checks.state(exact), Checks.state(x));
    Checks.due("no more is done", exact.run(100000), 0);
    Checks.due("the same still", Checks.state(exact), Checks.state(x));
    SharedLambda omega = Checks.of("(\\x.\\y.\\z.x y) (\\x.x)" + OMEGA);
    Checks.due("without end", omega.run(100), 1);
    Checks.due("all is used", meetings(omega), 100);
  }

  /** Many short runs do what one long run does. */
  private static void parts() {
    String[] texts = {TWO + TWO + TWO, THREE + TWO, "(\\x.\\y.x x) (\\x.\\y.x x)", "(\\x.x x x) (\\x.x x x)"};
    for (String text : texts) {
      SharedLambda parts = Checks.of(text);
      for (int k = 0; k < 100; k++) {
        parts.run(k % 4);
      }
      SharedLambda whole = Checks.of(text);
      whole.run(150);
      Checks.due("in parts " + text, Checks.state(parts), Checks.state(whole));
    }
  }

  private static void onlyWhereAskedFor() {
    SharedLambda x = Checks.of("\\f.f" + OMEGA);
    Checks.due("an argument is read, too", x.run(50), 1);
    x = Checks.of("(\\x.\\y.y)" + OMEGA);
    Checks.due("but not one that is not used", x.run(1), 0);
    Checks.due("one beta", Checks.state(x), "0 1 0 0 13 3 2 0 1 0 0 1 0 0 \\0");
    x = Checks.of("\\f.f (\\z.z) ((\\x.x) (\\y.y))");
    Checks.due("the head comes first", x.run(0), 1);
    Checks.due("the one in the argument", x.run(1), 1);
    Checks.due("and what follows from it", x.run(100), 0);
    Checks.due("one beta in all", x.count(1), 1);
    Checks.due("told", Checks.result(x), "\\((0 \\0) \\0)");
  }

  private static void noRoom() {
    SharedLambda x = Checks.of("(\\x.x x x) (\\x.x x x)");
    Checks.due("nodes", x.run(100000), 2);
    Checks.due("two more would be too many", x.count(5), 2999);
    String before = Checks.state(x);
    Checks.due("again", x.run(1), 2);
    Checks.due("it stays", Checks.state(x), before);
    Checks.due("without fuel", x.run(0), 1);
    Checks.due("it stays still", Checks.state(x), before);

    x = Checks.of("(\\x.x x x x) (\\x.x x x x)");
    Checks.due("more nodes", x.run(100000), 2);
    Checks.due("3000 is not too many", x.count(5), 3000);

    x = Checks.of("(\\x.x (x x)) (\\x.x (x x))");
    Checks.due("an index above 63", x.run(100000), 2);
    Checks.due("there are few nodes", x.count(5), 712);
    Checks.due("an index above 63, with no fuel", x.run(0), 1);
    Checks.due("the object can be used on", Checks.read(x, TWO + TWO), 24);
    Checks.due("and runs", x.run(100000), 0);
  }

  /** A tree of copies of a function of many names: few steps for its letters. */
  private static String copies(int binders, int names, int uses) {
    StringBuilder text = new StringBuilder("\\w.(\\d.\\s.d (d (d s))) (\\x.w").append(" x".repeat(uses)).append(") (");
    for (int k = 0; k < binders; k++) {
      text.append('\\').append((char) ('a' + k)).append('.');
    }
    for (int k = 0; k < names; k++) {
      text.append((char) ('a' + k)).append(' ');
    }
    return text.append(')').toString();
  }

  private static void tooManySteps() {
    SharedLambda x = Checks.of("\\q.".repeat(13) + copies(17, 9, 4));
    Checks.due("4000 steps", x.run(100000), 0);
    Checks.due("letters", x.count(6), 3935);
    x = Checks.of("\\q.".repeat(14) + copies(17, 9, 4));
    Checks.due("4001 steps", x.run(100000), 3);
    Checks.due("no letters", x.count(6), 0);
    Checks.due("too long, with no fuel", x.run(0), 3);
    x = Checks.of(THREE + TWO + TWO);
    Checks.due("too long", x.run(100000), 3);
    Checks.due("state", Checks.state(x), "0 17 84 934 0 208 0 0 2 2 15 79 109 0 ");
  }

  private static void tooManyLetters() {
    SharedLambda x = Checks.of("\\q.".repeat(8) + copies(26, 26, 3));
    Checks.due("4000 letters", x.run(100000), 0);
    Checks.due("all of them", x.count(6), 4000);
    Checks.due("the last one", x.letter(3999), ')');
    x = Checks.of("\\q.".repeat(9) + copies(26, 26, 3));
    Checks.due("4001 letters", x.run(100000), 3);
    Checks.due("none of them", x.count(6), 0);
  }

  /** The document's STEPS begin with the one that finds a meeting: as number 4001 it is too long, too. */
  private static void aMeetingIsAStep() {
    String text = "\\w." + TWO + THREE + TWO + "(\\x.\\y.w y x y) (\\a.a)";
    SharedLambda x = Checks.of(text);
    Checks.due("too long behind a meeting at step 4000", x.run(100000), 3);
    int met = meetings(x);
    x = Checks.of("\\q." + text);
    Checks.due("too long at a meeting", x.run(100000), 3);
    Checks.due("which is not done", meetings(x) < met ? 1 : 0, 1);
  }
}
