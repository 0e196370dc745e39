/** Promise 4, read: the graph of a term, and that nothing is erased at first. */
public final class Promise4GraphTest {
  public static void main(String[] args) {
    Checks.cases(Promise4GraphTest.class);
  }

  /** Numbers of lambdas, applications, fans, croissants, brackets, erasers. */
  private static void graph(String text, String kinds) {
    SharedLambda x = new SharedLambda();
    int size = Checks.read(x, text);
    StringBuilder found = new StringBuilder();
    int sum = 1;
    for (int kind = 0; kind <= 5; kind++) {
      found.append(x.nodes(kind)).append(kind < 5 ? " " : "");
      sum += x.nodes(kind);
    }
    Checks.due("kinds of " + text, found.toString(), kinds);
    Checks.due("nodes of " + text, size, sum);
    Checks.due("count(5) of " + text, x.count(5), sum);
    Checks.due("erased of " + text, x.count(4), 0);
  }

  static void promise4_the_smallest_graph_has_3_nodes_with_the_root() {
    graph("\\x.x", "1 0 0 1 0 0");
  }

  static void promise4_a_name_that_is_not_used_has_an_eraser() {
    graph("\\x.\\y.x", "2 0 0 1 0 1");
    graph("\\x.\\y.y", "2 0 0 1 0 1");
    graph("\\x.\\y.\\z.y", "3 0 0 1 0 2");
    graph("\\x.".repeat(40) + "x", "40 0 0 1 0 39");
  }

  static void promise4_a_name_that_an_inner_lambda_has_too_is_not_used_there() {
    graph("\\x.\\x.x", "2 0 0 1 0 1");
    graph("\\x.x (\\x.x)", "2 1 0 2 0 0");
    graph("\\x.\\y.(\\x.x y) x", "3 2 0 3 2 0");
  }

  static void promise4_a_name_that_is_used_once_has_no_fan() {
    graph("\\x.\\y.x y", "2 1 0 2 1 0");
    graph("\\x.\\y.y x", "2 1 0 2 1 0");
  }

  static void promise4_a_name_of_function_and_argument_has_a_fan() {
    graph("\\x.x x", "1 1 1 2 1 0");
    graph("\\x.x x x", "1 2 2 3 2 0");
    graph("\\x.x (x x)", "1 2 2 3 2 0");
    graph("\\x.\\y.\\z.x z (y z)", "3 3 1 4 4 0");
  }

  static void promise4_a_name_of_the_argument_has_one_bracket_for_each_argument_around_it() {
    graph("\\x.\\y.x (x y)", "2 2 1 3 3 0");
    graph("\\x.\\y.x (x (x (x y)))", "2 4 3 5 7 0");
    graph("\\x.\\y.x (y y)", "2 2 1 3 2 0");
    graph("\\x.(\\y.y) (\\z.x)", "3 1 0 2 1 1");
  }

  static void promise4_a_name_of_the_function_alone_has_no_bracket() {
    graph("\\x.x (\\y.y)", "2 1 0 2 0 0");
    graph("(\\x.x) (\\x.x)", "2 1 0 2 0 0");
  }

  static void promise4_nothing_is_erased_at_first_where_erasers_are_at_bindings_alone() {
    graph("(\\x.\\y.y) ((\\x.x x) (\\x.x x))", "4 4 2 5 2 1");
    graph("(\\x.\\y.\\z.z) (\\x.\\y.x)", "5 1 0 2 0 3");
  }

  /** Many names through many arguments: far more brackets than text, and still within the 3000 nodes. */
  static void promise4_the_largest_graphs_have_room() {
    StringBuilder text = new StringBuilder();
    StringBuilder all = new StringBuilder();
    for (int k = 0; k < 20; k++) {
      text.append('\\').append((char) ('a' + k)).append('.');
      all.append((char) ('a' + k)).append(' ');
    }
    text.append("a (".repeat(20)).append(all).append(")".repeat(20));
    PlainModel model = PlainModel.of(text.toString());
    Checks.due("nodes", Checks.read(new SharedLambda(), text.toString()), model.nodes.size());
    Checks.due("brackets", model.population(PlainModel.BRACKET), 20 * 20 + 19);
  }

  static void promise4_the_deepest_argument_is_read_and_told() {
    String text = "\\x." + Texts.nest("x", 40, "x");
    SharedLambda x = new SharedLambda();
    Checks.due("40 applications", Checks.read(x, text), 1 + 1 + 40 + 40 + 41 + 40);
    Checks.due("run", x.run(0), 0);
    Checks.due("told", Checks.result(x), "\\" + "(0 ".repeat(40) + "0" + ")".repeat(40));
  }
}
