/** Promise 5, run: 4000 steps and 4000 letters are taken, and what is more is TOO LONG. */
public final class Promise5LengthTest {
  // Behind \v.v (..), each with the meetings that it needs; another \q. around it is one step and one letter more.
  private static final String MANY_LETTERS = Texts.copies(7, 1, 17, 14);
  private static final int FOR_LETTERS = 1721;
  private static final String MANY_STEPS = Texts.copies(9, 0, 9, 9);
  private static final int FOR_STEPS = 1359;
  private static final String MEETING = "((\\x.x) (\\y.y))";

  public static void main(String[] args) {
    Checks.cases(Promise5LengthTest.class);
  }

  private static String then(int around, String many, String last) {
    return Texts.around(around, "\\v.v (" + many + ") " + last);
  }

  /** The same, where the last part has h for a function that it is yet to meet: no letter comes before that meeting. */
  private static String thenMet(int around, String many, String last) {
    return Texts.around(around, "(\\h.\\v.v (" + many + ") " + last + ") (\\y.y)");
  }

  /** Steps and letters of the whole walk behind so many meetings, told by a model without these limits. */
  private static void whole(String text, int fuel, int steps, int letters) {
    PlainModel model = PlainModel.of(text);
    model.mostSteps = 9999;
    model.mostLetters = 9999;
    model.run(fuel);
    Checks.due("steps of " + text, model.steps, steps);
    Checks.due("letters of " + text, model.told.length(), letters);
  }

  /** With just this fuel it answers so, as the model does; with no more fuel it answers so again, and changes nothing. */
  private static SharedLambda answers(String text, int fuel, int answer) {
    SharedLambda x = Checks.of(text);
    Checks.due("run of " + text, x.run(fuel), answer);
    Checks.due("meetings of " + text, Checks.meetings(x), fuel);
    PlainModel model = PlainModel.of(text);
    Checks.due("run by the model of " + text, model.run(fuel), answer);
    Checks.due("state by the model of " + text, Checks.state(x), model.state());
    String before = Checks.state(x);
    Checks.due("run(0) of " + text, x.run(0), answer);
    Checks.due("state of " + text, Checks.state(x), before);
    return x;
  }

  private static void isTold(String text, int fuel, int steps, int letters) {
    whole(text, fuel, steps, letters);
    SharedLambda x = answers(text, fuel, 0);
    Checks.due("letters", x.count(6), letters);
    Checks.due("result", Checks.result(x), PlainReducer.normal(new PlainModel().parse(text), 20000));
  }

  private static void isTooLong(String text, int fuel, int steps, int letters) {
    whole(text, fuel, steps, letters);
    staysTooLong(answers(text, fuel, 3));
  }

  private static void staysTooLong(SharedLambda x) {
    String before = Checks.state(x);
    Checks.due("run(100000)", x.run(100000), 3);
    Checks.due("state", Checks.state(x), before);
    Checks.due("no letters", x.count(6), 0);
  }

  /** The walk comes to a meeting, which is done if there is fuel. */
  private static SharedLambda meets(String text, int fuel, int steps, int letters) {
    whole(text, fuel, steps, letters);
    SharedLambda x = answers(text, fuel, 1);
    x.run(1);
    Checks.due("done", Checks.meetings(x), fuel + 1);
    return x;
  }

  // ---- steps

  static void promise5_4000_steps_are_done() {
    isTold(then(4, MANY_STEPS, "v"), FOR_STEPS, 4000, 3695);
  }

  static void promise5_4001_steps_are_too_long() {
    isTooLong(then(5, MANY_STEPS, "v"), FOR_STEPS, 4001, 3696);
  }

  static void promise5_a_meeting_at_step_4000_is_done() {
    meets(then(17, MANY_STEPS, MEETING), FOR_STEPS, 4000, 3707);
  }

  /** To find that two are to meet is a step, too. */
  static void promise5_a_meeting_at_step_4001_is_too_long() {
    isTooLong(then(18, MANY_STEPS, MEETING), FOR_STEPS, 4001, 3708);
  }

  static void promise5_each_walk_behind_a_meeting_is_looked_at() {
    isTold(then(15, MANY_STEPS, MEETING), FOR_STEPS + 4, 3999, 3707);
    String text = then(16, MANY_STEPS, MEETING);
    whole(text, FOR_STEPS + 4, 4000, 3708);
    isTooLong(text, FOR_STEPS + 2, 4001, 3706);
  }

  // ---- letters

  static void promise5_4000_letters_are_told() {
    isTold(then(10, MANY_LETTERS, "v"), FOR_LETTERS, 3909, 4000);
  }

  static void promise5_4001_letters_are_too_long_if_the_last_one_only_closes() {
    isTooLong(then(11, MANY_LETTERS, "v"), FOR_LETTERS, 3910, 4001);
  }

  static void promise5_4001_letters_are_too_long_if_the_last_one_is_a_number() {
    isTooLong(then(12, MANY_LETTERS, "v"), FOR_LETTERS, 3911, 4002);
  }

  static void promise5_each_digit_of_a_number_is_a_letter() {
    isTold("\\w." + then(8, MANY_LETTERS, "w"), FOR_LETTERS, 3890, 3999);
    isTooLong("\\w." + then(9, MANY_LETTERS, "w"), FOR_LETTERS, 3891, 4001);
    isTooLong("\\w." + then(10, MANY_LETTERS, "w"), FOR_LETTERS, 3892, 4002);
  }

  static void promise5_a_meeting_behind_the_4000th_letter_an_opening_one_is_done() {
    SharedLambda x = meets(then(11, MANY_LETTERS, MEETING), FOR_LETTERS, 3891, 4000);
    Checks.due("too long in the end", x.run(100000), 3);
  }

  static void promise5_a_meeting_behind_the_4001st_letter_an_opening_one_is_too_long() {
    isTooLong(then(12, MANY_LETTERS, MEETING), FOR_LETTERS, 3892, 4001);
  }

  static void promise5_a_meeting_behind_the_4000th_letter_a_blank_is_done() {
    meets(thenMet(12, MANY_LETTERS, "h"), FOR_LETTERS + 1, 3893, 4000);
  }

  /** The blank counts with the step before it, behind which there is no other one yet. */
  static void promise5_a_meeting_behind_the_4001st_letter_a_blank_is_too_long() {
    isTooLong(thenMet(13, MANY_LETTERS, "h"), FOR_LETTERS + 1, 3894, 4001);
  }

  static void promise5_a_meeting_behind_the_4001st_letter_a_closing_one_is_too_long() {
    isTooLong(thenMet(14, MANY_LETTERS, "h"), FOR_LETTERS + 1, 3895, 4002);
  }

  static void promise5_a_meeting_behind_the_4000th_letter_an_abstraction_is_done() {
    meets(thenMet(11, MANY_LETTERS, "(\\u.h)"), FOR_LETTERS + 1, 3893, 4000);
  }

  static void promise5_a_meeting_behind_the_4001st_letter_an_abstraction_is_too_long() {
    isTooLong(thenMet(12, MANY_LETTERS, "(\\u.h)"), FOR_LETTERS + 1, 3894, 4001);
  }

  /** No walk leaves anything to the next one, however long it was. */
  static void promise5_terms_one_after_another_are_walked_as_on_new_objects() {
    String[] texts = {
      then(4, MANY_STEPS, "v"), then(11, MANY_LETTERS, "v"), Texts.THREE + Texts.TWO + Texts.TWO, Texts.TWO + Texts.TWO,
      then(10, MANY_LETTERS, "v"), Texts.indexes(30, 32), Texts.FOUR + Texts.TWO + Texts.TWO, then(5, MANY_STEPS, "v"),
      "\\w." + Texts.TWO + Texts.THREE + Texts.TWO + "(\\x.\\y.w y x y) (\\a.a)", "\\x.\\y.x y", Texts.THREE + Texts.THREE,
    };
    SharedLambda x = new SharedLambda();
    for (int round = 0; round < 2; round++) {
      for (String text : texts) {
        SharedLambda fresh = Checks.of(text);
        Checks.read(x, text);
        Checks.due("run of " + text, x.run(100000), fresh.run(100000));
        Checks.due("state of " + text, Checks.state(x), Checks.state(fresh));
      }
    }
  }

  static void promise5_behind_too_long_another_term_is_told() {
    SharedLambda x = answers(then(11, MANY_LETTERS, "v"), FOR_LETTERS, 3);
    Checks.due("read", Checks.read(x, "\\x.\\y.x y"), 7);
    Checks.due("run", x.run(0), 0);
    Checks.due("result", Checks.result(x), "\\\\(1 0)");
  }
}
