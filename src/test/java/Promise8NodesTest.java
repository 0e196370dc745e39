/** Promise 8, nodes: how many nodes there are of a kind. */
public final class Promise8NodesTest {
  private static final String NO_SUCH = "IndexOutOfBoundsException";

  public static void main(String[] args) {
    Checks.cases(Promise8NodesTest.class);
  }

  private static void kinds(SharedLambda x, String when, int... due) {
    int sum = 1;
    for (int kind = 0; kind < due.length; kind++) {
      Checks.due("nodes(" + kind + ") " + when, x.nodes(kind), due[kind]);
      sum += due[kind];
    }
    Checks.due("with the root " + when, x.count(5), sum);
  }

  static void promise8_kind_minus_1_is_refused() {
    Checks.refusedAlways("nodes(-1)", NO_SUCH, x -> x.nodes(-1));
  }

  /** The root is of no kind that can be asked for. */
  static void promise8_kind_6_is_refused() {
    Checks.refusedAlways("nodes(6)", NO_SUCH, x -> x.nodes(6));
    Checks.refusedAlways("nodes(7)", NO_SUCH, x -> x.nodes(7));
  }

  static void promise8_the_least_and_the_greatest_kind_are_refused() {
    Checks.refusedAlways("the least", NO_SUCH, x -> x.nodes(Integer.MIN_VALUE));
    Checks.refusedAlways("the greatest", NO_SUCH, x -> x.nodes(Integer.MAX_VALUE));
  }

  static void promise8_kinds_0_to_5_are_taken() {
    kinds(new SharedLambda(), "of a new object", 1, 0, 0, 1, 0, 0);
    kinds(Checks.of("\\x.\\y.x x"), "of one of each kind", 2, 1, 1, 2, 1, 1);
  }

  static void promise8_kinds_change_with_each_meeting() {
    SharedLambda x = Checks.of("(\\x.\\y.\\z.x z (y z)) (\\x.\\y.x) (\\x.\\y.x)");
    kinds(x, "at first", 7, 5, 1, 6, 4, 2);
    x.run(1);
    kinds(x, "behind a beta", 6, 4, 1, 6, 4, 2);
    x.run(3000);
    kinds(x, "at the end", 1, 0, 1, 2, 1, 1);
  }

  static void promise8_kinds_of_a_full_graph() {
    SharedLambda x = Checks.of("(\\x.x x x x) (\\x.x x x x)");
    x.run(100000);
    int sum = 1;
    for (int kind = 0; kind <= 5; kind++) {
      sum += x.nodes(kind);
    }
    Checks.due("all of them", sum, 3000);
  }

  static void promise8_kinds_stay_behind_a_fault() {
    SharedLambda x = Checks.of("\\x.\\y.x x");
    Checks.read(x, "(");
    kinds(x, "behind a fault", 2, 1, 1, 2, 1, 1);
  }

  static void promise8_kinds_are_those_of_the_new_term() {
    SharedLambda x = Checks.of("\\x.\\y.x x");
    Checks.read(x, "\\x.x");
    kinds(x, "of the new term", 1, 0, 0, 1, 0, 0);
  }
}
