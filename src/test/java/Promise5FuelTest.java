/** Promise 5, run: how much fuel is taken, what it is used for, and what is answered first. */
public final class Promise5FuelTest {
  private static final String WRONG_FUEL = "IllegalArgumentException";
  /** 77 meetings. */
  private static final String FOUR_TIMES = Texts.TWO + Texts.TWO;

  public static void main(String[] args) {
    Checks.cases(Promise5FuelTest.class);
  }

  static void promise5_fuel_minus_1_is_refused() {
    Checks.refusedAlways("run(-1)", WRONG_FUEL, x -> x.run(-1));
  }

  static void promise5_fuel_100001_is_refused() {
    Checks.refusedAlways("run(100001)", WRONG_FUEL, x -> x.run(100001));
  }

  static void promise5_the_least_and_the_greatest_fuel_are_refused() {
    Checks.refusedAlways("the least", WRONG_FUEL, x -> x.run(Integer.MIN_VALUE));
    Checks.refusedAlways("the greatest", WRONG_FUEL, x -> x.run(Integer.MAX_VALUE));
  }

  static void promise5_fuel_0_is_taken_and_enough_where_nothing_is_to_meet() {
    SharedLambda x = Checks.of("\\x.\\y.x y");
    Checks.due("run(0)", x.run(0), 0);
    Checks.due("result", Checks.result(x), "\\\\(1 0)");
  }

  static void promise5_fuel_0_does_no_meeting() {
    SharedLambda x = Checks.of("(\\x.x) (\\y.y)");
    String before = Checks.state(x);
    Checks.due("run(0)", x.run(0), 1);
    Checks.due("state", Checks.state(x), before);
  }

  static void promise5_fuel_1_does_one_meeting() {
    SharedLambda x = Checks.of("(\\x.x) (\\y.y)");
    Checks.due("run(1)", x.run(1), 1);
    Checks.due("one beta", Checks.state(x), "0 1 0 0 0 4 0 0 1 0 0 2 0 0 ");
  }

  static void promise5_fuel_1_is_enough_for_the_last_meeting() {
    SharedLambda x = Checks.of("(\\x.\\y.y) " + Texts.OMEGA);
    Checks.due("run(1)", x.run(1), 0);
    Checks.due("result", Checks.result(x), "\\0");
  }

  static void promise5_fuel_100000_is_taken_and_all_of_it_used() {
    SharedLambda x = Checks.of(Texts.OMEGA);
    Checks.due("run(100000)", x.run(100000), 1);
    Checks.due("meetings", Checks.meetings(x), 100000);
    Checks.due("run(100000) again", x.run(100000), 1);
    Checks.due("meetings in all", Checks.meetings(x), 200000);
  }

  static void promise5_fuel_that_is_just_enough_is_enough() {
    SharedLambda x = Checks.of(FOUR_TIMES);
    Checks.due("run(77)", x.run(77), 0);
    Checks.due("meetings", Checks.meetings(x), 77);
    Checks.due("result", Checks.result(x), "\\\\(1 (1 (1 (1 0))))");
  }

  static void promise5_one_less_than_enough_is_no_fuel() {
    SharedLambda x = Checks.of(FOUR_TIMES);
    Checks.due("run(76)", x.run(76), 1);
    Checks.due("all of it was used", Checks.meetings(x), 76);
    Checks.due("no result", x.count(6), 0);
    Checks.due("run(0)", x.run(0), 1);
    Checks.due("the last one", x.run(1), 0);
    SharedLambda whole = Checks.of(FOUR_TIMES);
    whole.run(100000);
    Checks.due("the same in the end", Checks.state(x), Checks.state(whole));
  }

  static void promise5_fuel_that_is_left_over_does_nothing() {
    SharedLambda x = Checks.of(FOUR_TIMES);
    x.run(77);
    String before = Checks.state(x);
    Checks.due("run(78)", Checks.of(FOUR_TIMES).run(78), 0);
    Checks.due("run(100000)", x.run(100000), 0);
    Checks.due("state", Checks.state(x), before);
    Checks.due("run(0)", x.run(0), 0);
    Checks.due("state still", Checks.state(x), before);
  }

  static void promise5_many_short_runs_do_what_one_long_run_does() {
    String[] texts = {FOUR_TIMES + Texts.TWO, Texts.THREE + Texts.TWO, "(\\x.\\y.x x) (\\x.\\y.x x)", "(\\x.x x x) (\\x.x x x)"};
    for (String text : texts) {
      SharedLambda parts = Checks.of(text);
      for (int k = 0; k < 100; k++) {
        parts.run(k % 4);
      }
      SharedLambda whole = Checks.of(text);
      whole.run(150);
      Checks.due("in parts " + text, Checks.state(parts), Checks.state(whole));
    }
  }

  /** Nothing of a walk that came to no end is left: 400 walks through 18 abstractions and more. */
  static void promise5_each_run_begins_its_walk_anew() {
    String text = "\\w." + "w (\\q.".repeat(17) + "w ((\\x.\\y.x x) (\\x.\\y.x x))" + ")".repeat(17);
    SharedLambda x = Checks.of(text);
    for (int k = 0; k < 400; k++) {
      Checks.due("run(1), time " + k, x.run(1), 1);
    }
    SharedLambda whole = Checks.of(text);
    whole.run(400);
    Checks.due("state", Checks.state(x), Checks.state(whole));
    PlainModel model = PlainModel.of(text);
    model.run(400);
    Checks.due("state by the model", Checks.state(x), model.state());
  }

  /** Each of these walks comes through some 1400 abstractions, which have 30 levels each. */
  static void promise5_abstractions_of_earlier_walks_are_forgotten() {
    String endless = "((\\x.\\y.x x) (\\x.\\y.x x))";
    SharedLambda x = Checks.of("\\z." + "z (".repeat(30) + endless + ")".repeat(30));
    Checks.due("no room", x.run(100000), 2);
    for (int k = 0; k < 300; k++) {
      Checks.due("run(0), time " + k, x.run(0), 1);
    }
    Checks.due("no room still", x.run(1), 2);
    Checks.due("read", Checks.read(x, "\\x.x (\\y.\\z.y)"), 8);
    Checks.due("run", x.run(0), 0);
    Checks.due("result", Checks.result(x), "\\(0 \\\\1)");
  }

  /** Terms without end, whose walks have levels of some 1000 kinds each, few of which are the same in another term. */
  static void promise5_levels_of_earlier_walks_are_forgotten() {
    String[] functions = {
      "(\\a.v (a (\\e.a e)))", "(\\a.v (v (a (\\e.a e))))", "(\\a.v (a (\\e.v (a e))))", "(\\a.v a (a (\\e.a e)))",
      "(\\a.v (a (\\e.a (a e))))", "(\\a.v (v v (a (\\e.a e))))", "(\\a.v (a (\\e.a (\\b.e b))))",
    };
    SharedLambda x = new SharedLambda();
    for (int round = 0; round < 2; round++) {
      for (String function : functions) {
        String text = "\\v." + function + function;
        SharedLambda fresh = Checks.of(text);
        Checks.due("read " + text, Checks.read(x, text), fresh.count(5));
        Checks.due("run of a new object, " + text, fresh.run(100000), 3);
        Checks.due("run of " + text, x.run(100000), 3);
        Checks.due("state of " + text, Checks.state(x), Checks.state(fresh));
      }
    }
  }

  static void promise5_no_fuel_is_answered_before_no_room() {
    String text = "(\\x.x (x x)) (\\x.x (x x))";
    SharedLambda x = Checks.of(text);
    Checks.due("no room", x.run(100000), 2);
    String before = Checks.state(x);
    int done = Checks.meetings(x);
    Checks.due("run(0)", x.run(0), 1);
    Checks.due("run(1)", x.run(1), 2);
    Checks.due("state", Checks.state(x), before);
    SharedLambda exact = Checks.of(text);
    Checks.due("all fuel used before", exact.run(done), 1);
    Checks.due("the same state", Checks.state(exact), before);
    Checks.due("one more", Checks.of(text).run(done + 1), 2);
  }

  static void promise5_too_long_is_answered_without_fuel_too() {
    SharedLambda x = Checks.of(Texts.THREE + Texts.TWO + Texts.TWO);
    Checks.due("too long", x.run(3000), 3);
    int done = Checks.meetings(x);
    Checks.due("run(0)", x.run(0), 3);
    Checks.due("all fuel used before", Checks.of(Texts.THREE + Texts.TWO + Texts.TWO).run(done), 3);
    Checks.due("one less", Checks.of(Texts.THREE + Texts.TWO + Texts.TWO).run(done - 1), 1);
  }

  static void promise5_what_is_not_done_stays_as_it_was() {
    SharedLambda x = Checks.of(Texts.THREE + Texts.TWO + Texts.TWO);
    x.run(3000);
    Checks.due("state", Checks.state(x), "0 17 84 934 0 208 0 0 2 2 15 79 109 0 ");
    Checks.due("again", x.run(100000), 3);
    Checks.due("state still", Checks.state(x), "0 17 84 934 0 208 0 0 2 2 15 79 109 0 ");
  }

  static void promise5_the_tape_and_the_fault_are_not_touched() {
    SharedLambda x = Checks.of(FOUR_TIMES);
    Checks.read(x, "x");
    Checks.type(x, "\\x.x x");
    x.run(100);
    Checks.due("fault", x.count(0), 2);
    Checks.due("tape", x.count(7), 6);
    Checks.due("read", x.read(), 7);
  }

  static void promise5_two_meet_only_where_the_head_asks_for_it() {
    SharedLambda x = Checks.of("(\\x.\\y.y) " + Texts.OMEGA);
    Checks.due("an argument that is not used", x.run(1), 0);
    Checks.due("one beta", Checks.state(x), "0 1 0 0 13 3 2 0 1 0 0 1 0 0 \\0");
    x = Checks.of("\\f.f " + Texts.OMEGA);
    Checks.due("one that is told", x.run(50), 1);
    x = Checks.of("\\f.f (\\z.z) ((\\x.x) (\\y.y))");
    Checks.due("the head comes first", x.run(0), 1);
    Checks.due("then the argument", x.run(4), 0);
    Checks.due("told", Checks.result(x), "\\((0 \\0) \\0)");
    x = Checks.of("(\\x.\\y.\\z.x y) (\\x.x) " + Texts.OMEGA);
    Checks.due("without end", x.run(100), 1);
    Checks.due("all fuel is used", Checks.meetings(x), 100);
  }
}
