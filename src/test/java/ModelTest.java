import java.util.Random;

/** Terms made by chance (always the same ones), run by the class and by the plain model, and by plain reduction. */
public final class ModelTest {
  private static final int TERMS = 3000;
  private static final int[] FUELS = {0, 1, 2, 5, 20, 100, 400, 1500};

  private static final Random CHANCE = new Random(20261115L);
  private static final int[] ANSWERS = new int[5];
  private static int reduced = 0;

  public static void main(String[] args) {
    SharedLambda x = new SharedLambda();
    for (int k = 0; k < TERMS; k++) {
      if (k % 8 == 0) {
        x = new SharedLambda();
      }
      compare(x, makeTerm(1 + CHANCE.nextInt(5 + k % 36), "", 0));
    }
    for (String term : named()) {
      compare(new SharedLambda(), term);
    }
    Checks.due("some runs are DONE, NO FUEL, TOO LONG", ANSWERS[0] > 500 && ANSWERS[1] > 500 && ANSWERS[3] > 0 ? 1 : 0, 1);
    Checks.due("no run is WRONG", ANSWERS[4], 0);
    Checks.due("many are reduced plainly", reduced > 500 ? 1 : 0, 1);
    Checks.end();
  }

  private static String[] named() {
    String one = "(\\f.\\x.f x)";
    String two = "(\\f.\\x.f (f x))";
    String three = "(\\f.\\x.f (f (f x)))";
    String omega = "((\\x.x x) (\\x.x x))";
    String fix = "(\\f.(\\x.f (x x)) (\\x.f (x x)))";
    return new String[] {
      // the same lambda is read around itself, so that only the levels tell whose variable it is
      "\\w.\\g.\\z." + two + "(\\x.\\z.w (\\y.x (z y))) g z",
      "\\w.\\g.\\z." + three + "(\\x.\\z.w (\\y.x (z y))) g z",
      "\\w.\\g.\\z." + two + three + "(\\x.\\z.w (\\y.x (z y))) g z",
      "\\w.\\g." + three + "(\\x.\\z.w (\\y.x (z y)) (\\y.x y z)) g",
      two + two + two, two + two + two + two, three + two, two + three, three + three, two + three + one,
      omega, fix + "(\\x.x)", fix, fix + "(\\x.\\y.y)", "(\\x.x x x) (\\x.x x x)",
      "(\\n.\\f.\\x.n (\\g.\\h.h (g f)) (\\u.x) (\\u.u))" + three,
      "(\\m.\\n.\\f.m (n f))" + three + three, "(\\x.\\y.x)" + three + omega,
      "\\y.(\\x.x (x y)) (\\z.z)", "\\a.\\b.(\\f.f (f a) (f b)) (\\x.\\y.y x b)",
    };
  }

  private static String makeTerm(int size, String bound, int nest) {
    if (size <= 1 || nest > 30) {
      return bound.isEmpty() ? "(\\a.a)" : name(bound);
    }
    int choice = CHANCE.nextInt(10);
    if (choice < 4) {
      char letter = (char) ('a' + CHANCE.nextInt(6));
      return "(\\" + letter + "." + makeTerm(size - 1, bound + letter, nest + 1) + ")";
    }
    if (choice < 5 && size > 4) {
      int use = 2 + CHANCE.nextInt(2);
      return "((\\s." + "s ".repeat(use) + makeTerm(size / 2, bound + "s", nest + 2) + ") "
          + makeTerm(size / 2, bound, nest + 1) + ")";
    }
    if (choice < 6 && size > 6 && !bound.isEmpty()) {
      String numeral = CHANCE.nextBoolean() ? "(\\f.\\x.f (f x))" : "(\\f.\\x.f (f (f x)))";
      return "(" + numeral + "(\\x.\\z." + name(bound) + "(\\y." + makeTerm(size / 2, bound + "xzy", nest + 5) + "))"
          + name(bound) + ")";
    }
    int left = 1 + CHANCE.nextInt(size - 1);
    return "(" + makeTerm(left, bound, nest + 1) + " " + makeTerm(size - left, bound, nest + 1) + ")";
  }

  private static String name(String bound) {
    return String.valueOf(bound.charAt(CHANCE.nextInt(bound.length())));
  }

  private static void compare(SharedLambda x, String text) {
    if (text.length() > 600) {
      return;
    }
    PlainModel model = new PlainModel();
    PlainModel.Term term;
    try {
      term = model.parse(text);
    } catch (PlainModel.Fault fault) {
      String before = Checks.state(x);
      Checks.due("read " + text, Checks.read(x, text), -1 - fault.place);
      Checks.due("fault of " + text, x.count(0), fault.kind);
      Checks.due("all else of " + text, Checks.state(x).substring(1), before.substring(1));
      return;
    }
    model.take(term);
    Checks.due("read " + text, Checks.read(x, text), model.nodes.size());
    for (int fuel : FUELS) {
      int answer = model.run(fuel);
      ANSWERS[answer]++;
      String call = "run(" + fuel + ") of " + text;
      Checks.due(call, x.run(fuel), answer);
      Checks.due("state behind " + call, Checks.state(x), model.state());
      if (answer == 0) {
        compareWithReduction(term, text, model.result);
      }
      if (answer != 1) {
        break;
      }
    }
  }

  private static void compareWithReduction(PlainModel.Term term, String text, String result) {
    String normal = PlainReducer.normal(term, 20000);
    if (normal != null) {
      reduced++;
      Checks.due("normal form of " + text, result, normal);
    }
  }
}
