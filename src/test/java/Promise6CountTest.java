/** Promise 6, count: the latest fault, what was done since the term was read, and what there is now. */
public final class Promise6CountTest {
  private static final String NO_SUCH = "IndexOutOfBoundsException";
  private static final String MANY_NAMES = "\\x." + "x ".repeat(80);

  public static void main(String[] args) {
    Checks.cases(Promise6CountTest.class);
  }

  static void promise6_what_minus_1_is_refused() {
    Checks.refusedAlways("count(-1)", NO_SUCH, x -> x.count(-1));
  }

  static void promise6_what_8_is_refused() {
    Checks.refusedAlways("count(8)", NO_SUCH, x -> x.count(8));
  }

  static void promise6_the_least_and_the_greatest_what_are_refused() {
    Checks.refusedAlways("the least", NO_SUCH, x -> x.count(Integer.MIN_VALUE));
    Checks.refusedAlways("the greatest", NO_SUCH, x -> x.count(Integer.MAX_VALUE));
  }

  static void promise6_what_0_to_7_are_taken() {
    SharedLambda x = new SharedLambda();
    for (int what = 0; what <= 7; what++) {
      Checks.due("count(" + what + ")", x.count(what), what == 5 ? 3 : 0);
    }
  }

  private static void counts(SharedLambda x, String when, int... due) {
    for (int k = 0; k < due.length; k++) {
      Checks.due("count(" + (k + 1) + ") " + when, x.count(k + 1), due[k]);
    }
  }

  // ---- 0: faults

  static void promise6_no_fault_if_nothing_was_read() {
    SharedLambda x = new SharedLambda();
    Checks.due("count(0)", x.count(0), 0);
    Checks.type(x, "?");
    Checks.due("typing is no reading", x.count(0), 0);
  }

  static void promise6_the_latest_fault_of_each_kind() {
    SharedLambda x = new SharedLambda();
    String[] texts = {"(", "x", "(".repeat(41), MANY_NAMES, "(".repeat(41), "x", "("};
    int[] kinds = {1, 2, 3, 4, 3, 2, 1};
    for (int k = 0; k < texts.length; k++) {
      Checks.read(x, texts[k]);
      Checks.due("fault of " + texts[k], x.count(0), kinds[k]);
      x.run(1);
      Checks.due("a run leaves it", x.count(0), kinds[k]);
      Checks.type(x, "a");
      x.keep(0);
      Checks.due("type and keep leave it", x.count(0), kinds[k]);
    }
  }

  static void promise6_no_fault_if_the_latest_read_had_none() {
    for (String text : new String[] {"(", "x", "(".repeat(41), MANY_NAMES}) {
      SharedLambda x = new SharedLambda();
      Checks.read(x, text);
      Checks.read(x, "\\x.x");
      Checks.due("behind " + text, x.count(0), 0);
    }
  }

  // ---- 1 to 4: since the term was read

  static void promise6_meetings_since_the_term_was_read() {
    SharedLambda x = Checks.of("(\\x.x x) (\\y.y)");
    counts(x, "at first", 0, 0, 0, 0, 10, 0, 0);
    x.run(1);
    counts(x, "behind the first beta", 1, 0, 0, 0, 8, 0, 0);
    x.run(100);
    counts(x, "at the end", 2, 5, 10, 0, 3, 2, 0);
    Checks.read(x, Texts.TWO + Texts.TWO);
    counts(x, "of the next term", 0, 0, 0, 0, 24, 0, 0);
    x.run(3000);
    counts(x, "at its end", 5, 12, 60, 0, 29, 19, 0);
  }

  static void promise6_a_fault_does_not_begin_them_anew() {
    SharedLambda x = Checks.of("(\\x.\\y.y) " + Texts.OMEGA);
    x.run(1);
    Checks.read(x, "(\\x.\\y.y");
    counts(x, "behind a fault", 1, 0, 0, 13, 3, 2, 0);
  }

  static void promise6_they_go_on_from_run_to_run() {
    SharedLambda x = Checks.of(Texts.TWO + Texts.TWO);
    for (int k = 1; k <= 77; k++) {
      x.run(1);
      Checks.due("meetings", Checks.meetings(x), k);
    }
    counts(x, "at the end", 5, 12, 60, 0, 29, 19, 0);
    x.run(100000);
    counts(x, "behind a run that had nothing to do", 5, 12, 60, 0, 29, 19, 0);
  }

  static void promise6_a_run_that_does_nothing_counts_nothing() {
    SharedLambda x = Checks.of(Texts.TWO + Texts.TWO);
    x.run(0);
    counts(x, "behind run(0)", 0, 0, 0, 0, 24, 0, 0);
  }

  static void promise6_erased_nodes_without_erasers() {
    SharedLambda x = Checks.of("(\\x.\\y.y) " + Texts.OMEGA);
    counts(x, "before", 0, 0, 0, 0, 19, 0, 0);
    x.run(1);
    counts(x, "behind", 1, 0, 0, 13, 3, 2, 0);
    x = Checks.of("(\\x.\\y.y) (\\z.\\w.w)");
    x.run(1);
    counts(x, "two erasers went", 1, 0, 0, 3, 3, 2, 0);
    x = Checks.of("(\\x.\\y.\\z.x z (y z)) (\\x.\\y.x) (\\x.\\y.x)");
    x.run(3000);
    counts(x, "of S K K", 4, 1, 3, 10, 7, 2, 0);
    x = Checks.of("(\\x.\\y.x) (\\z.z) ((\\x.x x x) (\\x.x x x))");
    x.run(3000);
    counts(x, "of K I and one without end", 2, 1, 2, 21, 3, 2, 0);
  }

  static void promise6_nodes_that_meet_are_not_erased() {
    SharedLambda x = Checks.of(Texts.TWO + Texts.TWO);
    x.run(3000);
    Checks.due("none", x.count(4), 0);
  }

  // ---- 5: nodes

  static void promise6_nodes_with_the_root_and_erasers() {
    Checks.due("\\x.x", new SharedLambda().count(5), 3);
    Checks.due("\\x.\\y.y", Checks.of("\\x.\\y.y").count(5), 5);
    SharedLambda x = Checks.of("(\\x.x x x x) (\\x.x x x x)");
    x.run(100000);
    Checks.due("a full graph", x.count(5), 3000);
  }

  // ---- 6: letters

  static void promise6_no_letters_before_a_run() {
    Checks.due("a new object", new SharedLambda().count(6), 0);
    Checks.due("a new term", Checks.of("\\x.x").count(6), 0);
  }

  static void promise6_letters_of_a_run_that_is_done() {
    SharedLambda x = Checks.of("\\x.x x");
    x.run(0);
    Checks.due("\\(0 0)", x.count(6), 6);
  }

  static void promise6_no_letters_behind_a_new_term() {
    SharedLambda x = Checks.of("\\x.x x");
    x.run(0);
    Checks.read(x, "\\x.x x");
    Checks.due("letters", x.count(6), 0);
  }

  static void promise6_letters_stay_behind_a_fault() {
    SharedLambda x = Checks.of("\\x.x x");
    x.run(0);
    Checks.read(x, "?");
    Checks.due("letters", x.count(6), 6);
  }

  static void promise6_no_letters_behind_no_fuel_no_room_and_too_long() {
    String[] texts = {Texts.OMEGA, "(\\x.x (x x)) (\\x.x (x x))", Texts.THREE + Texts.TWO + Texts.TWO};
    for (int k = 0; k < texts.length; k++) {
      SharedLambda x = new SharedLambda();
      x.run(0);
      Checks.due("letters of the first term", x.count(6), 2);
      Checks.read(x, texts[k]);
      Checks.due("answer", x.run(100000), k + 1);
      Checks.due("no letters", x.count(6), 0);
      Checks.due("letter(0)", Checks.thrown(() -> x.letter(0)), NO_SUCH);
    }
  }

  static void promise6_letters_come_when_a_later_run_is_done() {
    SharedLambda x = Checks.of("(\\x.x) (\\x.x)");
    x.run(0);
    Checks.due("NO FUEL", x.count(6), 0);
    x.run(3);
    Checks.due("NO FUEL still", x.count(6), 0);
    x.run(1);
    Checks.due("DONE", x.count(6), 2);
    Checks.due("a call that throws", Checks.thrown(() -> x.run(-1)), "IllegalArgumentException");
    Checks.due("leaves them", x.count(6), 2);
  }

  // ---- 7: bytes

  static void promise6_bytes_of_the_tape_from_0_to_600() {
    SharedLambda x = new SharedLambda();
    for (int k = 0; k < 600; k++) {
      Checks.due("bytes", x.count(7), k);
      x.type(' ', 1);
    }
    Checks.due("a full tape", x.count(7), 600);
    x.read();
    Checks.due("an empty one", x.count(7), 0);
  }

  static void promise6_count_changes_nothing() {
    SharedLambda x = Checks.typed(Checks.of(Texts.TWO + Texts.TWO), "\\x.x");
    x.run(20);
    String before = Checks.state(x);
    Checks.due("asked again", Checks.state(x), before);
  }
}
