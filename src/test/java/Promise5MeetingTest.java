/** Promise 5, run: what nodes do that meet, what is erased behind it, and what a graph means. */
public final class Promise5MeetingTest {
  public static void main(String[] args) {
    Checks.cases(Promise5MeetingTest.class);
  }

  /** State behind so many meetings: fault, betas, annihilations, passings, erased, nodes, letters, tape, kinds 0 to 5. */
  private static SharedLambda behind(String text, int fuel, String state) {
    SharedLambda x = Checks.of(text);
    x.run(fuel);
    Checks.due(text + " behind " + fuel, Checks.state(x), state);
    Checks.due(text + " behind " + fuel + ", by the model", modelBehind(text, fuel), state);
    return x;
  }

  private static String modelBehind(String text, int fuel) {
    PlainModel model = PlainModel.of(text);
    model.run(fuel);
    return model.state();
  }

  private static void told(String text, String result) {
    SharedLambda x = Checks.of(text);
    Checks.due("run of " + text, x.run(100000), 0);
    Checks.due("result of " + text, Checks.result(x), result);
  }

  // ---- each meeting of (\x.x) (\y.y) by hand

  static void promise5_a_beta_takes_both_away() {
    behind("(\\x.x) (\\y.y)", 1, "0 1 0 0 0 4 0 0 1 0 0 2 0 0 ");
  }

  static void promise5_a_croissant_passes_a_lambda_of_greater_index() {
    behind("(\\x.x) (\\y.y)", 2, "0 1 0 1 0 5 0 0 1 0 0 3 0 0 ");
  }

  static void promise5_a_croissant_passes_a_croissant_of_greater_index() {
    behind("(\\x.x) (\\y.y)", 3, "0 1 0 2 0 5 0 0 1 0 0 3 0 0 ");
  }

  static void promise5_two_croissants_of_the_same_index_annihilate() {
    behind("(\\x.x) (\\y.y)", 4, "0 1 1 2 0 3 2 0 1 0 0 1 0 0 \\0");
  }

  static void promise5_fans_and_brackets_pass_and_annihilate() {
    behind("(\\x.x x) (\\y.y)", 1, "0 1 0 0 0 8 0 0 1 1 1 3 1 0 ");
    for (int fuel = 2; fuel <= 17; fuel++) {
      behind("(\\x.x x) (\\y.y)", fuel, modelBehind("(\\x.x x) (\\y.y)", fuel));
    }
    behind("(\\x.x x) (\\y.y)", 17, "0 2 5 10 0 3 2 0 1 0 0 1 0 0 \\0");
  }

  // ---- erasing, by hand

  static void promise5_an_eraser_at_port_0_of_a_lambda_erases() {
    behind("(\\x.\\y.y) (\\z.z)", 1, "0 1 0 0 2 3 2 0 1 0 0 1 0 0 \\0");
  }

  static void promise5_an_eraser_at_port_0_of_a_fan_erases() {
    behind("(\\x.\\y.y) (\\z.z z)", 1, "0 1 0 0 6 3 2 0 1 0 0 1 0 0 \\0");
  }

  static void promise5_an_eraser_at_port_1_of_a_croissant_and_a_bracket_erases() {
    behind("\\a.(\\x.\\y.y) a", 1, "0 1 0 0 2 5 3 0 2 0 0 1 0 1 \\\\0");
  }

  static void promise5_an_eraser_at_port_1_of_an_application_erases() {
    behind("\\a.\\b.(\\x.\\y.y) (a b)", 1, "0 1 0 0 6 7 4 0 3 0 0 1 0 2 \\\\\\0");
  }

  static void promise5_one_eraser_at_a_fan_does_not_erase() {
    behind("\\x.(\\k.x) x", 1, "0 1 0 0 2 5 2 0 1 0 1 1 0 1 \\0");
    behind("\\x.(\\k.\\l.\\m.m) x x", 1, "0 1 0 0 2 11 0 0 3 1 1 2 1 2 ");
  }

  static void promise5_erasers_at_both_ports_of_a_fan_erase() {
    behind("\\x.(\\k.\\l.\\m.m) x x", 2, "0 2 0 0 5 5 3 0 2 0 0 1 0 1 \\\\0");
  }

  static void promise5_an_eraser_at_the_binding_of_a_lambda_does_not_erase() {
    behind("\\x.\\y.y", 0, "0 0 0 0 0 5 3 0 2 0 0 1 0 1 \\\\0");
    behind("(\\x.x) (\\y.\\z.z)", 1, "0 1 0 0 0 6 0 0 2 0 0 2 0 1 ");
  }

  static void promise5_two_erasers_that_are_wired_go() {
    behind("(\\x.\\y.y) (\\z.\\w.w)", 1, "0 1 0 0 3 3 2 0 1 0 0 1 0 0 \\0");
  }

  static void promise5_all_is_erased_at_once_behind_a_meeting() {
    behind("(\\x.\\y.y) " + Texts.OMEGA, 1, "0 1 0 0 13 3 2 0 1 0 0 1 0 0 \\0");
    behind("(\\x.\\y.x) (\\z.z) ((\\x.x x x) (\\x.x x x))", 2, modelBehind("(\\x.\\y.x) (\\z.z) ((\\x.x x x) (\\x.x x x))", 2));
  }

  static void promise5_what_passes_a_lambda_whose_binding_is_erased_is_erased_there() {
    behind("(\\x.x) (\\y.\\z.z)", 2, "0 1 0 1 1 6 0 0 2 0 0 2 0 1 ");
  }

  // ---- what a graph means

  static void promise5_results_are_normal_forms() {
    told("\\x.\\y.x y", "\\\\(1 0)");
    told("(\\x.x) (\\y.y)", "\\0");
    told("(\\x.x x) (\\y.y)", "\\0");
    told(Texts.TWO + Texts.TWO, "\\\\(1 (1 (1 (1 0))))");
    told("(\\x.\\y.\\z.x z (y z)) (\\x.\\y.x) (\\x.\\y.x)", "\\0");
    told("(\\x.\\y.x) (\\z.z)" + Texts.OMEGA, "\\0");
    told("\\y.(\\x.\\z.x) y", "\\\\1");
    told("\\a.\\b.(\\f.f (f a)) (\\x.x b)", "\\\\((1 0) 0)");
    told("(\\n.\\f.\\x.n (\\g.\\h.h (g f)) (\\u.x) (\\u.u))" + Texts.THREE, "\\\\(1 (1 0))");
    told("(\\m.\\n.\\f.\\x.m f (n f x))" + Texts.TWO + Texts.THREE, "\\\\(1 (1 (1 (1 (1 0)))))");
  }

  static void promise5_a_variable_is_of_the_innermost_abstraction_with_the_same_levels() {
    String[] texts = {
      "\\w.\\g.\\z." + Texts.TWO + "(\\x.\\z.w (\\y.x (z y))) g z",
      "\\w.\\g.\\z." + Texts.THREE + "(\\x.\\z.w (\\y.x (z y))) g z",
      "\\w.\\g." + Texts.THREE + "(\\x.\\z.w (\\y.x (z y)) (\\y.x y z)) g",
      // many abstractions of a high index, whose levels are all kept
      "\\w." + "w (".repeat(20) + "\\g." + Texts.TWO + "(\\x.\\z.w (\\y." + Texts.FOUR + Texts.FOUR
          + "(\\u.\\v.u) (x (z y)))) g" + ")".repeat(20),
    };
    for (String text : texts) {
      told(text, PlainReducer.normal(new PlainModel().parse(text), 100000));
    }
  }
}
