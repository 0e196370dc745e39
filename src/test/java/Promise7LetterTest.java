/** Promise 7, letter: letter i of the result, and how a term is told. */
public final class Promise7LetterTest {
  private static final String NO_SUCH = "IndexOutOfBoundsException";

  public static void main(String[] args) {
    Checks.cases(Promise7LetterTest.class);
  }

  private static SharedLambda told(String text) {
    SharedLambda x = Checks.of(text);
    x.run(100000);
    return x;
  }

  static void promise7_i_minus_1_is_refused() {
    Checks.refusedAlways("letter(-1)", NO_SUCH, x -> x.letter(-1));
  }

  static void promise7_i_behind_the_last_letter_is_refused() {
    Checks.refusedAlways("letter(count(6))", NO_SUCH, x -> x.letter(x.count(6)));
    Checks.refusedAlways("letter(count(6) + 1)", NO_SUCH, x -> x.letter(x.count(6) + 1));
  }

  static void promise7_the_least_and_the_greatest_i_are_refused() {
    Checks.refusedAlways("the least", NO_SUCH, x -> x.letter(Integer.MIN_VALUE));
    Checks.refusedAlways("the greatest", NO_SUCH, x -> x.letter(Integer.MAX_VALUE));
    Checks.refusedAlways("4000", NO_SUCH, x -> x.letter(4000));
  }

  static void promise7_i_0_without_a_result_is_refused() {
    Checks.refused("of a new object", NO_SUCH, SharedLambda::new, x -> x.letter(0));
    Checks.refused("of a new term", NO_SUCH, () -> Checks.of("\\x.x"), x -> x.letter(0));
    Checks.refused("behind NO FUEL", NO_SUCH, () -> {
      SharedLambda x = Checks.of("(\\x.x) (\\y.y)");
      x.run(0);
      return x;
    }, x -> x.letter(0));
    Checks.refused("behind a result and a new term", NO_SUCH, () -> {
      SharedLambda x = told("\\x.x");
      Checks.read(x, "\\x.x x");
      return x;
    }, x -> x.letter(0));
  }

  static void promise7_the_first_and_the_last_letter_are_taken() {
    SharedLambda x = told("\\x.\\y.x y");
    String due = "\\\\(1 0)";
    Checks.due("the first", x.letter(0), '\\');
    Checks.due("the last", x.letter(6), ')');
    for (int i = 0; i < due.length(); i++) {
      Checks.due("letter(" + i + ")", x.letter(i), due.charAt(i));
    }
    Checks.due("one more", Checks.thrown(() -> x.letter(7)), NO_SUCH);
  }

  static void promise7_the_last_letter_of_4000_is_taken() {
    SharedLambda x = told(Texts.around(10, "\\v.v (" + Texts.copies(7, 1, 17, 14) + ") v"));
    Checks.due("letters", x.count(6), 4000);
    Checks.due("letter(0)", x.letter(0), '\\');
    Checks.due("letter(3998)", x.letter(3998), '0');
    Checks.due("letter(3999)", x.letter(3999), ')');
    Checks.due("letter(4000)", Checks.thrown(() -> x.letter(4000)), NO_SUCH);
  }

  static void promise7_a_shorter_result_has_none_of_the_letters_of_a_longer_one() {
    SharedLambda x = told("\\x.x x x");
    Checks.due("the longer one", Checks.result(x), "\\((0 0) 0)");
    Checks.read(x, "\\x.x");
    x.run(0);
    Checks.due("the shorter one", Checks.result(x), "\\0");
    Checks.due("letter(2)", Checks.thrown(() -> x.letter(2)), NO_SUCH);
  }

  static void promise7_letters_stay_behind_a_fault() {
    SharedLambda x = told("\\x.x x x");
    Checks.read(x, ")");
    Checks.due("result", Checks.result(x), "\\((0 0) 0)");
  }

  static void promise7_the_same_result_is_told_again() {
    SharedLambda x = told(Texts.TWO + Texts.TWO);
    String first = Checks.result(x);
    x.run(0);
    Checks.due("again", Checks.result(x), first);
  }

  static void promise7_the_smallest_term_is_told() {
    Checks.due("\\x.x", Checks.result(told("\\x.x")), "\\0");
  }

  static void promise7_applications_are_told_with_parentheses_and_one_blank() {
    Checks.due("to the left", Checks.result(told("\\x.\\y.x y x")), "\\\\((1 0) 1)");
    Checks.due("to the right", Checks.result(told("\\x.\\y.x (y x)")), "\\\\(1 (0 1))");
    Checks.due("of functions", Checks.result(told("\\x.x (\\y.x y)")), "\\(0 \\(1 0))");
  }

  static void promise7_a_variable_of_the_abstraction_next_to_it_is_0() {
    Checks.due("0", Checks.result(told("\\a.\\b.b")), "\\\\0");
  }

  static void promise7_numbers_of_one_two_and_three_digits() {
    for (int between : new int[] {1, 9, 10, 11, 19, 20, 38, 39}) {
      SharedLambda x = told("\\a." + "\\b.".repeat(between) + "a");
      Checks.due("between " + between, Checks.result(x), "\\".repeat(between + 1) + between);
    }
    // 4 to the 4th functions of nothing around a variable
    SharedLambda x = told("\\a." + Texts.FOUR + Texts.FOUR + "(\\u.\\v.u) a");
    Checks.due("256", Checks.result(x), "\\".repeat(257) + "256");
  }
}
