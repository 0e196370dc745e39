/** Promise 8: nodes. */
public final class NodesTest {
  public static void main(String[] args) {
    SharedLambda x = Checks.of("(\\x.\\y.\\z.x z (y z)) (\\x.\\y.x) (\\x.\\y.x)");
    kinds(x, "at first", 7, 5, 1, 6, 4, 2);
    x.run(1);
    kinds(x, "behind a beta", 6, 4, 1, 6, 4, 2);
    x.run(3000);
    kinds(x, "at the end", 1, 0, 1, 2, 1, 1);
    for (int kind : new int[] {-1, 6, 7, Integer.MAX_VALUE, Integer.MIN_VALUE}) {
      Checks.due("nodes(" + kind + ")", Checks.thrown(() -> x.nodes(kind)), "IndexOutOfBoundsException");
    }
    kinds(x, "behind what throws", 1, 0, 1, 2, 1, 1);
    Checks.read(x, "(");
    kinds(x, "behind a fault", 1, 0, 1, 2, 1, 1);
    Checks.read(x, "\\x.\\y.x x");
    kinds(x, "of a new term", 2, 1, 1, 2, 1, 1);
    Checks.end();
  }

  private static void kinds(SharedLambda x, String when, int... due) {
    int sum = 1;
    for (int kind = 0; kind < due.length; kind++) {
      Checks.due("nodes(" + kind + ") " + when, x.nodes(kind), due[kind]);
      sum += due[kind];
    }
    Checks.due("with the root " + when, x.count(5), sum);
  }
}
