/** Promise 3, keep: the tape keeps its first n bytes. */
public final class Promise3KeepTest {
  private static final String WRONG_N = "IllegalArgumentException";

  public static void main(String[] args) {
    Checks.cases(Promise3KeepTest.class);
  }

  private static SharedLambda with(String text) {
    return Checks.typed(new SharedLambda(), text);
  }

  static void promise3_n_minus_1_is_refused() {
    Checks.refusedAlways("keep(-1)", WRONG_N, x -> x.keep(-1));
  }

  static void promise3_the_least_and_the_greatest_n_are_refused() {
    Checks.refusedAlways("the least", WRONG_N, x -> x.keep(Integer.MIN_VALUE));
    Checks.refusedAlways("the greatest", WRONG_N, x -> x.keep(Integer.MAX_VALUE));
  }

  static void promise3_one_more_than_it_has_is_refused() {
    Checks.refused("7 of 6", WRONG_N, () -> with("\\x.xyz"), x -> x.keep(7));
    Checks.refused("1 of 0", WRONG_N, SharedLambda::new, x -> x.keep(1));
    Checks.refused("601 of 600", WRONG_N, () -> with(Texts.padded("\\x.x", 600)), x -> x.keep(601));
    Checks.refused("600 of 599", WRONG_N, () -> with(Texts.padded("\\x.x", 599)), x -> x.keep(600));
  }

  static void promise3_all_that_it_has_is_taken_and_changes_nothing() {
    SharedLambda x = with("\\x.x x");
    String before = Checks.state(x);
    x.keep(6);
    Checks.due("6 of 6", Checks.state(x), before);
    Checks.due("read", x.read(), 7);
  }

  static void promise3_0_of_an_empty_tape_is_taken() {
    SharedLambda x = new SharedLambda();
    x.keep(0);
    Checks.due("bytes", x.count(7), 0);
  }

  static void promise3_0_of_a_full_tape_is_taken() {
    SharedLambda x = with(Texts.padded("\\x.x", 600));
    x.keep(0);
    Checks.due("bytes", x.count(7), 0);
    Checks.due("nothing is left", x.read(), -1);
  }

  static void promise3_600_of_a_full_tape_is_taken() {
    SharedLambda x = with(Texts.padded("\\x.x", 600));
    x.keep(600);
    Checks.due("bytes", x.count(7), 600);
    Checks.due("read", x.read(), 3);
  }

  static void promise3_the_first_bytes_are_kept() {
    SharedLambda x = with("\\x.xyz");
    x.keep(5);
    Checks.due("five", x.count(7), 5);
    Checks.due("the fault is at y", x.read(), -5);
    x = with("\\x.xyz");
    x.keep(4);
    Checks.due("four", x.count(7), 4);
    Checks.due("no fault", x.read(), 3);
    x = with("\\x.xyz");
    x.keep(1);
    Checks.due("one", x.count(7), 1);
    Checks.due("ends too early", x.read(), -2);
  }

  static void promise3_what_was_cut_off_is_gone() {
    SharedLambda x = with("\\x.yy");
    x.keep(3);
    Checks.due("keep(4) then", Checks.thrown(() -> x.keep(4)), WRONG_N);
    Checks.due("typed behind what was kept", x.type('x', 1), 4);
    Checks.due("read", x.read(), 3);
  }

  static void promise3_behind_a_read_there_is_nothing_to_keep() {
    Checks.refused("1 behind a term", WRONG_N, () -> Checks.of("\\x.x"), x -> x.keep(1));
    SharedLambda x = with("\\x.(");
    x.read();
    Checks.due("1 behind a fault", Checks.thrown(() -> x.keep(1)), WRONG_N);
  }

  static void promise3_keep_changes_the_tape_alone() {
    SharedLambda x = Checks.of(Texts.TWO + Texts.TWO);
    x.run(100000);
    Checks.read(x, "?");
    String before = Checks.state(x);
    Checks.type(x, "abc");
    x.keep(0);
    Checks.due("state", Checks.state(x), before);
    Checks.due("run", x.run(0), 0);
  }
}
