/** Promise 1, a new object: an empty tape; the term \x.x. */
public final class Promise1NewObjectTest {
  private static final String FRESH = "0 0 0 0 0 3 0 0 1 0 0 1 0 0 ";

  public static void main(String[] args) {
    Checks.cases(Promise1NewObjectTest.class);
  }

  static void promise1_the_tape_is_empty() {
    SharedLambda x = new SharedLambda();
    Checks.due("bytes", x.count(7), 0);
    Checks.due("keep(1) of none", Checks.thrown(() -> x.keep(1)), "IllegalArgumentException");
    Checks.due("keep(0) of none", Checks.thrown(() -> x.keep(0)), "nothing");
    Checks.due("the first byte", x.type(' ', 1), 1);
  }

  static void promise1_the_empty_tape_is_no_term() {
    SharedLambda x = new SharedLambda();
    Checks.due("read", x.read(), -1);
    Checks.due("its fault", x.count(0), 1);
    Checks.due("the term is still there", x.run(0), 0);
    Checks.due("and its result", Checks.result(x), "\\0");
  }

  static void promise1_no_fault_no_counts_no_result_yet() {
    SharedLambda x = new SharedLambda();
    Checks.due("state", Checks.state(x), FRESH);
    Checks.due("letter(0)", Checks.thrown(() -> x.letter(0)), "IndexOutOfBoundsException");
  }

  static void promise1_the_term_can_be_run() {
    SharedLambda x = new SharedLambda();
    Checks.due("run(0)", x.run(0), 0);
    Checks.due("state behind", Checks.state(x), "0 0 0 0 0 3 2 0 1 0 0 1 0 0 \\0");
  }

  static void promise1_it_is_as_if_the_term_was_read() {
    Checks.due("state", Checks.state(new SharedLambda()), Checks.state(Checks.of("\\x.x")));
  }

  static void promise1_no_object_touches_another() {
    SharedLambda x = new SharedLambda();
    SharedLambda other = new SharedLambda();
    Checks.read(x, Texts.OMEGA);
    Checks.type(x, "abc");
    x.run(7);
    Checks.due("the other one", Checks.state(other), FRESH);
    Checks.due("a later one", Checks.state(new SharedLambda()), FRESH);
  }

  /** 4 calls for a term, 507 between, and one for the last answer. */
  static void promise1_the_512th_call_answers_as_the_first() {
    SharedLambda x = new SharedLambda();
    x.type(0x5c782e5c792e78L, 7);
    x.type(0x2079L, 2);
    x.read();
    x.run(100000);
    for (int call = 5; call <= 511; call++) {
      switch (call % 3) {
        case 0:
          Checks.due("type as call " + call, x.type(' ', 1), 1);
          break;
        case 1:
          x.keep(0);
          break;
        default:
          Checks.due("run as call " + call, x.run(call), 0);
          break;
      }
    }
    Checks.due("letter as call 512", x.letter(6), ')');
  }
}
