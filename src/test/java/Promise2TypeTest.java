/** Promise 2, type: the lowest n bytes come behind the tape, the highest of them first. */
public final class Promise2TypeTest {
  private static final long BLANKS = 0x2020202020202020L;
  private static final String WRONG_N = "IllegalArgumentException";
  private static final String FULL = "UnsupportedOperationException";

  public static void main(String[] args) {
    Checks.cases(Promise2TypeTest.class);
  }

  private static void refusedN(int n) {
    Checks.refusedAlways("type with n = " + n, WRONG_N, x -> x.type(0x5c782e785c782e78L, n));
  }

  static void promise2_n_0_is_refused() {
    refusedN(0);
  }

  static void promise2_n_minus_1_is_refused() {
    refusedN(-1);
  }

  static void promise2_n_9_is_refused() {
    refusedN(9);
  }

  static void promise2_the_least_and_the_greatest_n_are_refused() {
    refusedN(Integer.MIN_VALUE);
    refusedN(Integer.MAX_VALUE);
  }

  /** Numbers whose lowest bits or bytes alone would be 1 to 8. */
  static void promise2_n_that_wraps_around_is_refused() {
    for (int n : new int[] {256 + 1, 65536 + 4, Integer.MIN_VALUE + 1, Integer.MIN_VALUE + 8, -256 + 2, -8}) {
      refusedN(n);
    }
  }

  static void promise2_n_1_is_taken() {
    SharedLambda x = new SharedLambda();
    Checks.due("type", x.type('\\', 1), 1);
    Checks.due("bytes", x.count(7), 1);
    Checks.due("\\ alone ends too early", x.read(), -2);
  }

  static void promise2_n_8_is_taken() {
    SharedLambda x = new SharedLambda();
    Checks.due("type", x.type(0x5c78202e78207820L, 8), 8);
    Checks.due("bytes", x.count(7), 8);
    Checks.due("\\x .x x", x.read(), 7);
  }

  static void promise2_each_n_from_1_to_8_is_taken() {
    SharedLambda x = new SharedLambda();
    for (int n = 1; n <= 8; n++) {
      Checks.due("n = " + n, x.type(BLANKS, n), n * (n + 1) / 2);
    }
    Checks.due("36 blanks end too early", x.read(), -37);
  }

  static void promise2_the_highest_byte_comes_first() {
    SharedLambda x = new SharedLambda();
    x.type(0x5c7879L, 3);
    x.type(0x2e78L, 2);
    Checks.due("\\xy.x has its fault at y", x.read(), -3);
    x.type(0x5c782e285c792eL, 7);
    x.type(0x79207829L, 4);
    Checks.due("\\x.(\\y.y x)", x.read(), 7);
    x.run(0);
    Checks.due("told", Checks.result(x), "\\\\(0 1)");
  }

  static void promise2_the_bytes_above_the_lowest_n_are_left_out() {
    for (int n = 1; n <= 7; n++) {
      SharedLambda x = new SharedLambda();
      x.type(0x5c782e78L, 4);
      Checks.due("n = " + n, x.type(-1L << (8 * n) | BLANKS >>> (64 - 8 * n), n), 4 + n);
      Checks.due("blanks alone came with n = " + n, x.read(), 3);
    }
  }

  static void promise2_a_number_below_0_gives_its_bytes() {
    SharedLambda x = new SharedLambda();
    Checks.due("all bits", x.type(-1L, 8), 8);
    Checks.due("255 stands nowhere", x.read(), -1);
    x.type(Long.MIN_VALUE, 8);
    Checks.due("128 stands nowhere", x.read(), -1);
    x.type(Long.MIN_VALUE | 0x5c782e78L, 4);
    Checks.due("the lowest four", x.read(), 3);
  }

  /** The answer tells each byte's kind: behind \x.x it goes on, ends too early, or is a fault. */
  static void promise2_each_byte_from_0_to_255_is_kept_as_it_is() {
    for (int value = 0; value <= 255; value++) {
      SharedLambda x = new SharedLambda();
      x.type(0x5c782e78L, 4);
      x.type(value, 1);
      Checks.due("read with byte " + value, x.read(), answerWith(value));
    }
  }

  private static int answerWith(int value) {
    if (value == 9 || value == 10 || value == 13 || value == 32) {
      return 3;
    }
    if (value == 'x') {
      return 7;
    }
    if (value >= '0' && value <= '9') {
      return -4;
    }
    return value == '(' ? -6 : -5;
  }

  private static SharedLambda filled(int length) {
    return Checks.typed(new SharedLambda(), Texts.padded("\\x.x x", length));
  }

  private static void tooMany(int length, int n) {
    Checks.refused(n + " bytes behind " + length, FULL, () -> filled(length), x -> x.type(BLANKS, n));
  }

  static void promise2_the_600th_byte_is_taken() {
    SharedLambda x = filled(599);
    Checks.due("one behind 599", x.type(' ', 1), 600);
    Checks.due("read", x.read(), 7);
    x = filled(592);
    Checks.due("eight behind 592", x.type(BLANKS, 8), 600);
    Checks.due("read it", x.read(), 7);
    for (int n = 1; n <= 8; n++) {
      Checks.due("n = " + n, filled(600 - n).type(BLANKS, n), 600);
    }
  }

  static void promise2_the_601st_byte_is_refused() {
    tooMany(600, 1);
    tooMany(599, 2);
    tooMany(593, 8);
    for (int n = 1; n <= 8; n++) {
      tooMany(601 - n, n);
    }
  }

  static void promise2_a_full_tape_refuses_each_n() {
    for (int n = 1; n <= 8; n++) {
      tooMany(600, n);
    }
  }

  static void promise2_none_of_the_bytes_comes_if_not_all_of_them_can() {
    SharedLambda x = filled(595);
    Checks.due("six behind 595", Checks.thrown(() -> x.type(BLANKS, 6)), FULL);
    Checks.due("none of them came", x.count(7), 595);
    Checks.due("five do", x.type(0L, 5), 600);
    Checks.due("the fault is in the first of the five", x.read(), -596);
  }

  static void promise2_a_wrong_n_on_a_full_tape_is_an_illegal_argument() {
    for (int n : new int[] {0, 9, -1, Integer.MAX_VALUE, Integer.MIN_VALUE}) {
      Checks.refused("n = " + n, WRONG_N, () -> filled(600), x -> x.type(BLANKS, n));
    }
  }

  static void promise2_a_tape_that_was_full_takes_bytes_when_it_has_room_again() {
    SharedLambda x = filled(600);
    x.keep(599);
    Checks.due("behind keep", x.type(' ', 1), 600);
    x.read();
    Checks.due("behind read", x.type(' ', 1), 1);
  }

  static void promise2_bytes_come_behind_those_that_are_there() {
    SharedLambda x = new SharedLambda();
    Checks.due("the first", x.type(0x5c782eL, 3), 3);
    Checks.due("the second", x.type(0x78L, 1), 4);
    Checks.due("read", x.read(), 3);
  }

  static void promise2_type_changes_the_tape_alone() {
    SharedLambda x = Checks.of(Texts.TWO + Texts.TWO);
    x.run(100000);
    Checks.read(x, "?");
    String before = Checks.state(x);
    x.type(0x28L, 1);
    Checks.due("one byte more", Checks.state(x), before.replaceFirst("^((?:\\d+ ){7})0", "$11"));
  }
}
