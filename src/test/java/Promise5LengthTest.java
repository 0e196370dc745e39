/** Promise 5, run: 4000 steps and 4000 letters are taken, and what is more is TOO LONG. */
public final class Promise5LengthTest {
  // Behind \v.v (..), each with the meetings that it needs; another \q. around it is one step and one letter more.
  private static final String MANY_LETTERS = Texts.copies(7, 1, 17, 14);
  private static final int FOR_LETTERS = 1721;
  private static final String MANY_STEPS = Texts.copies(9, 0, 9, 9);
  private static final int FOR_STEPS = 1359;
  private static final String MEETING = "((\\x.x) (\\y.y))";

  public static void main(String[] args) {
    Checks.cases(Promise5LengthTest.class);
  }

  private static String then(int around, String many, String last) {
    return Texts.around(around, "\\v.v (" + many + ") " + last);
  }

  /** The same, where the last part has h for a function that it is yet to meet: no letter comes before that meeting. */
  private static String thenMet(int around, String many, String last) {
    return Texts.around(around, "(\\h.\\v.v (" + many + ") " + last + ") (\\y.y)");
  }

  /** With just this fuel it answers so, as the model does; with no more fuel it answers so again, and changes nothing. */
  private static SharedLambda answers(String text, int fuel, int answer) {
    SharedLambda x = Checks.of(text);
    Checks.due("run of " + text, x.run(fuel), answer);
    Checks.due("meetings of " + text, Checks.meetings(x), fuel);
    PlainModel model = PlainModel.of(text);
    Checks.due("run by the model of " + text, model.run(fuel), answer);
    Checks.due("state by the model of " + text, Checks.state(x), model.state());
    String before = Checks.state(x);
    Checks.due("run(0) of " + text, x.run(0), answer);
    Checks.due("state of " + text, Checks.state(x), before);
    return x;
  }

  private static void stays(SharedLambda x, int answer) {
    String before = Checks.state(x);
    Checks.due("run(100000)", x.run(100000), answer);
    Checks.due("state", Checks.state(x), before);
  }

  /** Steps and letters of the whole walk, told by a model without these limits. */
  private static void whole(String text, int fuel, int steps, int letters) {
    PlainModel model = PlainModel.of(text);
    model.mostSteps = 9999;
    model.mostLetters = 9999;
    model.run(fuel);
    Checks.due("steps of " + text, model.steps, steps);
    Checks.due("letters of " + text, model.told.length(), letters);
  }

  // ---- steps

  static void promise5_4000_steps_are_done() {
    String text = then(4, MANY_STEPS, "v");
    whole(text, FOR_STEPS, 4000, 3695);
    SharedLambda x = answers(text, FOR_STEPS, 0);
    Checks.due("letters", x.count(6), 3695);
    Checks.due("result", Checks.result(x), PlainReducer.normal(new PlainModel().parse(text), 20000));
  }

  static void promise5_4001_steps_are_too_long() {
    String text = then(5, MANY_STEPS, "v");
    whole(text, FOR_STEPS, 4001, 3696);
    SharedLambda x = answers(text, FOR_STEPS, 3);
    Checks.due("no letters", x.count(6), 0);
    stays(x, 3);
  }

  static void promise5_a_meeting_at_step_4000_is_done() {
    String text = then(17, MANY_STEPS, MEETING);
    whole(text, FOR_STEPS, 4000, 3707);
    SharedLambda x = answers(text, FOR_STEPS, 1);
    x.run(1);
    Checks.due("done", Checks.meetings(x), FOR_STEPS + 1);
  }

  /** To find that two are to meet is a step, too. */
  static void promise5_a_meeting_at_step_4001_is_too_long() {
    String text = then(18, MANY_STEPS, MEETING);
    whole(text, FOR_STEPS, 4001, 3708);
    stays(answers(text, FOR_STEPS, 3), 3);
  }

  static void promise5_each_walk_behind_a_meeting_is_looked_at() {
    String shorter = then(15, MANY_STEPS, MEETING);
    whole(shorter, FOR_STEPS + 4, 3999, 3707);
    Checks.due("no walk is too long", answers(shorter, FOR_STEPS, 1).run(4), 0);
    String text = then(16, MANY_STEPS, MEETING);
    whole(text, FOR_STEPS + 2, 4001, 3706);
    whole(text, FOR_STEPS + 4, 4000, 3708);
    SharedLambda x = answers(text, FOR_STEPS, 1);
    Checks.due("one before the last is too long", x.run(100000), 3);
    Checks.due("its meeting is not done", Checks.meetings(x), FOR_STEPS + 2);
    stays(x, 3);
  }

  // ---- letters

  static void promise5_4000_letters_are_told() {
    String text = then(10, MANY_LETTERS, "v");
    whole(text, FOR_LETTERS, 3909, 4000);
    SharedLambda x = answers(text, FOR_LETTERS, 0);
    Checks.due("letters", x.count(6), 4000);
    Checks.due("result", Checks.result(x), PlainReducer.normal(new PlainModel().parse(text), 20000));
  }

  static void promise5_4001_letters_are_too_long_if_the_last_one_only_closes() {
    String text = then(11, MANY_LETTERS, "v");
    whole(text, FOR_LETTERS, 3910, 4001);
    SharedLambda x = answers(text, FOR_LETTERS, 3);
    Checks.due("no letters", x.count(6), 0);
    stays(x, 3);
  }

  static void promise5_4001_letters_are_too_long_if_the_last_one_is_a_number() {
    String text = then(12, MANY_LETTERS, "v");
    whole(text, FOR_LETTERS, 3911, 4002);
    stays(answers(text, FOR_LETTERS, 3), 3);
  }

  static void promise5_each_digit_of_a_number_is_a_letter() {
    String one = "\\w." + then(8, MANY_LETTERS, "w");
    whole(one, FOR_LETTERS, 3890, 3999);
    SharedLambda x = answers(one, FOR_LETTERS, 0);
    Checks.due("letters with 9", x.count(6), 3999);
    Checks.due("9", x.letter(3997), '9');
    String two = "\\w." + then(9, MANY_LETTERS, "w");
    whole(two, FOR_LETTERS, 3891, 4001);
    stays(answers(two, FOR_LETTERS, 3), 3);
    String three = "\\w." + then(10, MANY_LETTERS, "w");
    whole(three, FOR_LETTERS, 3892, 4002);
    stays(answers(three, FOR_LETTERS, 3), 3);
  }

  static void promise5_a_meeting_behind_the_4000th_letter_an_opening_one_is_done() {
    String text = then(11, MANY_LETTERS, MEETING);
    whole(text, FOR_LETTERS, 3891, 4000);
    SharedLambda x = answers(text, FOR_LETTERS, 1);
    x.run(1);
    Checks.due("done", Checks.meetings(x), FOR_LETTERS + 1);
    Checks.due("too long in the end", x.run(100000), 3);
  }

  static void promise5_a_meeting_behind_the_4001st_letter_an_opening_one_is_too_long() {
    String text = then(12, MANY_LETTERS, MEETING);
    whole(text, FOR_LETTERS, 3892, 4001);
    stays(answers(text, FOR_LETTERS, 3), 3);
  }

  static void promise5_a_meeting_behind_the_4000th_letter_a_blank_is_done() {
    String text = thenMet(12, MANY_LETTERS, "h");
    whole(text, FOR_LETTERS + 1, 3893, 4000);
    SharedLambda x = answers(text, FOR_LETTERS + 1, 1);
    x.run(1);
    Checks.due("done", Checks.meetings(x), FOR_LETTERS + 2);
  }

  /** The blank counts with the step before it, behind which there is no other one yet. */
  static void promise5_a_meeting_behind_the_4001st_letter_a_blank_is_too_long() {
    String text = thenMet(13, MANY_LETTERS, "h");
    whole(text, FOR_LETTERS + 1, 3894, 4001);
    stays(answers(text, FOR_LETTERS + 1, 3), 3);
  }

  static void promise5_a_meeting_behind_the_4001st_letter_a_closing_one_is_too_long() {
    String text = thenMet(14, MANY_LETTERS, "h");
    whole(text, FOR_LETTERS + 1, 3895, 4002);
    stays(answers(text, FOR_LETTERS + 1, 3), 3);
  }

  static void promise5_a_meeting_behind_the_4000th_letter_an_abstraction_is_done() {
    String text = thenMet(11, MANY_LETTERS, "(\\u.h)");
    whole(text, FOR_LETTERS + 1, 3893, 4000);
    SharedLambda x = answers(text, FOR_LETTERS + 1, 1);
    x.run(1);
    Checks.due("done", Checks.meetings(x), FOR_LETTERS + 2);
  }

  static void promise5_a_meeting_behind_the_4001st_letter_an_abstraction_is_too_long() {
    String text = thenMet(12, MANY_LETTERS, "(\\u.h)");
    whole(text, FOR_LETTERS + 1, 3894, 4001);
    stays(answers(text, FOR_LETTERS + 1, 3), 3);
  }

  static void promise5_behind_too_long_another_term_is_told() {
    SharedLambda x = answers(then(11, MANY_LETTERS, "v"), FOR_LETTERS, 3);
    Checks.due("read", Checks.read(x, "\\x.\\y.x y"), 7);
    Checks.due("run", x.run(0), 0);
    Checks.due("result", Checks.result(x), "\\\\(1 0)");
  }
}
