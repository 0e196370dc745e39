/** Promise 5, run: 3000 nodes and the index 63 are taken, and what is more is NO ROOM. */
public final class Promise5RoomTest {
  private static final String GROWS_BY_2_AT_2999 = "(\\x.x x (\\u.\\v.u)) (\\x.x x ((x x) x))";
  private static final String GROWS_BY_1_AT_3000 = "(\\x.x x (\\u.\\v.v)) (\\x.x (\\a.((x a) a)))";
  private static final String GROWS_BY_2_AT_3000 = "(\\x.x x (\\u.\\v.v)) (\\x.x x ((\\d.d) x))";

  public static void main(String[] args) {
    Checks.cases(Promise5RoomTest.class);
  }

  /**
   * Runs out of room behind so many meetings, with so many nodes; by the next meeting, which the model does with its
   * limit lifted, there would be so many before erasing and so many behind it.
   */
  private static void noRoom(String text, int meetings, int nodes, int before, int behind) {
    SharedLambda x = Checks.of(text);
    Checks.due("run of " + text, x.run(100000), 2);
    Checks.due("meetings of " + text, Checks.meetings(x), meetings);
    Checks.due("nodes of " + text, x.count(5), nodes);
    PlainModel model = PlainModel.of(text);
    Checks.due("run by the model", model.run(100000), 2);
    Checks.due("state by the model", Checks.state(x), model.state());
    model.mostNodes = 4000;
    model.run(1);
    Checks.due("nodes before erasing", model.beforeErasing, before);
    Checks.due("nodes behind erasing", model.nodes.size(), behind);
  }

  /** The meeting behind so many others is done, and leads from so many nodes to so many. */
  private static void taken(String text, int meetings, int from, int to) {
    SharedLambda x = Checks.of(text);
    Checks.due("run to " + meetings, x.run(meetings), 1);
    Checks.due("nodes", x.count(5), from);
    x.run(1);
    Checks.due("it is done", Checks.meetings(x), meetings + 1);
    Checks.due("nodes then", x.count(5), to);
  }

  static void promise5_3000_nodes_are_taken() {
    taken(GROWS_BY_1_AT_3000, 4663, 2999, 3000);
    taken(GROWS_BY_2_AT_3000, 7933, 2998, 3000);
  }

  static void promise5_3001_nodes_are_no_room() {
    noRoom(GROWS_BY_1_AT_3000, 4664, 3000, 3001, 3001);
    noRoom(GROWS_BY_2_AT_2999, 7931, 2999, 3001, 3001);
  }

  static void promise5_3002_nodes_are_no_room() {
    noRoom(GROWS_BY_2_AT_3000, 7934, 3000, 3002, 3002);
  }

  static void promise5_the_nodes_before_erasing_count() {
    noRoom("(\\x.x x (\\u.\\v.u)) (\\x.x (\\b.(x (x (x (\\d.b))))))", 8909, 3000, 3001, 3000);
    noRoom("(\\x.x x ((\\b.(x b)) (\\u.\\v.v))) (\\x.x (((\\d.((x (\\b.x)) x)) (\\d.x)) (x x)))", 8444, 2999, 3001, 2999);
  }

  static void promise5_the_two_that_meet_do_not_count_and_a_full_graph_goes_on_where_none_is_added() {
    taken("(\\x.x x (\\u.\\v.v)) (\\x.x (\\a.(x ((a a) a))))", 4778, 3000, 3000);
  }

  static void promise5_a_full_graph_goes_on_where_nodes_go() {
    taken("(\\x.x x (\\u.\\v.u)) (\\x.x (((x x) (\\b.x)) x))", 5480, 3000, 2998);
  }

  static void promise5_no_room_changes_nothing() {
    SharedLambda x = Checks.of(GROWS_BY_1_AT_3000);
    x.run(100000);
    String before = Checks.state(x);
    Checks.due("run(1)", x.run(1), 2);
    Checks.due("run(100000)", x.run(100000), 2);
    Checks.due("state", Checks.state(x), before);
    Checks.due("run(0)", x.run(0), 1);
    Checks.due("state still", Checks.state(x), before);
    Checks.due("no result", x.count(6), 0);
  }

  static void promise5_behind_no_room_another_term_has_all_the_room() {
    SharedLambda x = Checks.of(GROWS_BY_1_AT_3000);
    x.run(100000);
    Checks.read(x, GROWS_BY_2_AT_3000);
    Checks.due("run", x.run(100000), 2);
    Checks.due("nodes", x.count(5), 3000);
    SharedLambda fresh = Checks.of(GROWS_BY_2_AT_3000);
    fresh.run(100000);
    Checks.due("as on a new object", Checks.state(x), Checks.state(fresh));
  }

  static void promise5_the_index_63_is_taken() {
    for (int outer = 27; outer <= 36; outer++) {
      int inner = 62 - outer;
      SharedLambda x = Checks.of(Texts.indexes(outer, inner));
      Checks.due("run with " + outer, x.run(100000), 0);
      Checks.due("told with " + outer, Checks.result(x),
          "\\" + "(0 ".repeat(outer) + "\\" + "(0 ".repeat(inner) + "0" + ")".repeat(62));
    }
  }

  static void promise5_the_index_64_is_no_room() {
    for (int outer = 28; outer <= 36; outer++) {
      SharedLambda x = Checks.of(Texts.indexes(outer, 63 - outer));
      Checks.due("run with " + outer, x.run(100000), 2);
      Checks.due("few nodes with " + outer, x.count(5) < 400 ? 1 : 0, 1);
      String before = Checks.state(x);
      Checks.due("run(0) with " + outer, x.run(0), 1);
      Checks.due("run(1) with " + outer, x.run(1), 2);
      Checks.due("state with " + outer, Checks.state(x), before);
    }
  }

  static void promise5_the_index_64_alone_is_why() {
    PlainModel model = PlainModel.of(Texts.indexes(30, 33));
    Checks.due("run by the model", model.run(100000), 2);
    SharedLambda x = Checks.of(Texts.indexes(30, 33));
    x.run(100000);
    Checks.due("state", Checks.state(x), model.state());
    model.mostIndex = 64;
    Checks.due("with 64", model.run(100000), 0);
    PlainModel below = PlainModel.of(Texts.indexes(30, 32));
    below.mostIndex = 62;
    Checks.due("63 is needed where it is taken", below.run(100000), 2);
  }

  static void promise5_an_index_grows_up_to_63_without_end() {
    SharedLambda x = Checks.of("(\\x.x (x x)) (\\x.x (x x))");
    Checks.due("run", x.run(100000), 2);
    PlainModel model = PlainModel.of("(\\x.x (x x)) (\\x.x (x x))");
    model.run(100000);
    Checks.due("state", Checks.state(x), model.state());
    Checks.due("nodes", x.count(5), 712);
  }
}
