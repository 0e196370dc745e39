/** Promise 4, read: the faults of texts, their kinds and places, and what a fault leaves. */
public final class Promise4FaultTest {
  /** 80 names: one more is too many. */
  private static final String MOST_NAMES = "\\x." + "x ".repeat(79);

  public static void main(String[] args) {
    Checks.cases(Promise4FaultTest.class);
  }

  private static void taken(String text, int nodes) {
    SharedLambda x = new SharedLambda();
    Checks.due("read " + text, Checks.read(x, text), nodes);
    Checks.due("no fault of " + text, x.count(0), 0);
  }

  // ---- 1: a byte that cannot stand where it does, a name of more than 4 bytes, the end

  static void promise4_fault_1_at_place_0() {
    Checks.fault(")", 1, 0);
    Checks.fault(".", 1, 0);
    Checks.fault("1", 1, 0);
    Checks.fault("X", 1, 0);
  }

  static void promise4_fault_1_at_the_last_byte_of_a_full_tape() {
    Checks.fault(Texts.padded("\\x.x", 599) + ")", 1, 599);
    Checks.fault(Texts.padded("\\x.x", 599) + "\\", 1, 599);
  }

  static void promise4_fault_1_at_the_byte_that_cannot_stand() {
    Checks.fault("\\.", 1, 1);
    Checks.fault("\\\\x.x", 1, 1);
    Checks.fault("\\(x).x", 1, 1);
    Checks.fault("\\)", 1, 1);
    Checks.fault("\\x x.x", 1, 3);
    Checks.fault("\\x(x", 1, 2);
    Checks.fault("\\x\\y.x", 1, 2);
    Checks.fault("\\x)", 1, 2);
    Checks.fault("\\x..x", 1, 3);
    Checks.fault("\\x.)", 1, 3);
    Checks.fault("\\x.x.", 1, 4);
    Checks.fault("\\x.x,", 1, 4);
    Checks.fault("(.", 1, 1);
    Checks.fault("(\\x.x.)", 1, 5);
  }

  static void promise4_fault_1_at_a_parenthesis_that_closes_nothing() {
    Checks.fault("\\x.x)", 1, 4);
    Checks.fault("(\\x.x))", 1, 6);
    Checks.fault("(\\x.x) )", 1, 7);
    Checks.fault("(\\x.(\\y.y) x) )x", 1, 14);
  }

  static void promise4_fault_1_at_the_length_of_an_empty_tape() {
    Checks.fault("", 1, 0);
  }

  static void promise4_fault_1_at_the_length_of_a_tape_that_ends_too_early() {
    Checks.fault("\\", 1, 1);
    Checks.fault("\\x", 1, 2);
    Checks.fault("\\x.", 1, 3);
    Checks.fault("(", 1, 1);
    Checks.fault("\\x.(", 1, 4);
    Checks.fault("\\x.(x", 1, 5);
    Checks.fault("(\\x.x", 1, 5);
    Checks.fault("((\\x.x)", 1, 7);
    Checks.fault("\\x.x (\\y.x", 1, 10);
  }

  static void promise4_fault_1_at_the_length_with_blanks_behind_too() {
    for (String blanks : new String[] {" ", "\t\n\r ", " ".repeat(9)}) {
      for (String text : new String[] {"", "\\", "\\x", "\\x.", "(", "\\x.(", "\\x.(x", "(\\x.x", "((\\x.x)"}) {
        Checks.fault(text + blanks, 1, text.length() + blanks.length());
      }
    }
  }

  static void promise4_fault_1_at_the_length_of_a_full_tape() {
    Checks.fault(" ".repeat(600), 1, 600);
    Checks.fault(Texts.padded("\\x", 600), 1, 600);
    Checks.fault(" ".repeat(599) + "(", 1, 600);
    Checks.fault(" ".repeat(599) + "\\", 1, 600);
    Checks.fault(" ".repeat(595) + "(\\x.x", 1, 600);
  }

  static void promise4_fault_1_at_a_name_that_the_end_cuts_off_is_at_the_length() {
    Checks.fault("\\x123", 1, 5);
    Checks.fault("\\x1234", 1, 1);
  }

  // ---- 2: a name that no \ around it has

  static void promise4_fault_2_at_a_name_that_no_lambda_has() {
    Checks.fault("x", 2, 0);
    Checks.fault(" x", 2, 1);
    Checks.fault("\\x.y", 2, 3);
    Checks.fault("\\x.(y)", 2, 4);
    Checks.fault("\\x.x (\\y.y) y", 2, 12);
    Checks.fault(" ".repeat(599) + "x", 2, 599);
  }

  static void promise4_fault_2_at_a_name_that_is_a_part_of_one_or_has_one_as_a_part() {
    Checks.fault("\\x.x1", 2, 3);
    Checks.fault("\\x1.x", 2, 4);
    Checks.fault("\\x123.x124", 2, 6);
    Checks.fault("\\x123.y123", 2, 6);
  }

  static void promise4_fault_2_not_at_a_name_behind_a_lambda() {
    taken("\\x.\\y.x", 5);
  }

  // ---- 3: a ( or \ in which 40 others are open

  static void promise4_fault_3_not_at_the_40th_that_is_open() {
    taken("\\x." + "(".repeat(39) + "x" + ")".repeat(39), 3);
    taken("(".repeat(39) + "\\x.x" + ")".repeat(39), 3);
    taken("\\x.".repeat(40) + "x", 1 + 40 + 39 + 1);
    taken("(\\x.".repeat(20) + "x" + ")".repeat(20), 1 + 20 + 19 + 1);
    Checks.fault("(".repeat(40), 1, 40);
  }

  static void promise4_fault_3_at_the_41st_parenthesis() {
    Checks.fault("(".repeat(41), 3, 40);
    Checks.fault("(".repeat(600), 3, 40);
    Checks.fault("(".repeat(40) + " (", 3, 41);
  }

  static void promise4_fault_3_at_the_41st_lambda() {
    Checks.fault("\\x.".repeat(41) + "x", 3, 120);
    Checks.fault("\\x.".repeat(40) + "\n\\", 3, 121);
  }

  static void promise4_fault_3_at_a_parenthesis_in_lambdas_and_a_lambda_in_parentheses() {
    Checks.fault("\\x." + "(".repeat(40) + "x", 3, 42);
    Checks.fault("\\x.".repeat(40) + "(x)", 3, 120);
    Checks.fault("\\x.".repeat(40) + "x (x)", 3, 122);
    Checks.fault("(".repeat(40) + "\\x.x", 3, 40);
    Checks.fault("(\\x.".repeat(20) + "\\x.x", 3, 80);
    Checks.fault("(\\x.".repeat(20) + " (", 3, 81);
  }

  static void promise4_fault_3_a_parenthesis_is_open_up_to_its_end_alone() {
    taken("\\x." + "(x)".repeat(60), 1 + 1 + 59 + 59 + 60 + 59);
    String deep = "\\x." + "(".repeat(38) + "(x)(x)(x)" + ")".repeat(38);
    taken(deep, 1 + 1 + 2 + 2 + 3 + 2);
    Checks.fault("\\x." + "(".repeat(38) + "(x)((x))", 3, 3 + 38 + 4);
  }

  static void promise4_fault_3_a_lambda_is_open_up_to_the_end_of_its_term_alone() {
    taken("(\\x.x)".repeat(39), 1 + 39 + 39 + 38);
    String deep = "(".repeat(38) + "(\\x.x)(\\y.y)(\\z.z)" + ")".repeat(38);
    taken(deep, 1 + 3 + 3 + 2);
    Checks.fault("(".repeat(38) + "(\\x.x)(\\y.(y))", 3, 38 + 6 + 4);
    Checks.fault("(".repeat(38) + "(\\x.x)(\\y.\\z.y)", 3, 38 + 6 + 4);
  }

  // ---- 4: more than 80 names

  static void promise4_fault_4_not_at_the_80th_name() {
    taken(MOST_NAMES, 1 + 1 + 79 + 78 * 3);
    taken("(\\x.x)".repeat(40), 1 + 80 + 39);
    taken("\\x." + "x ".repeat(77) + "(\\y.y)", 1 + 2 + 78 + 77 + 76 + 76);
  }

  static void promise4_fault_4_at_the_81st_name() {
    Checks.fault(MOST_NAMES + "x", 4, 3 + 79 * 2);
    Checks.fault("\\x." + "x ".repeat(78) + "(\\y. y)", 4, 3 + 78 * 2 + 5);
    Checks.fault(MOST_NAMES + "((x", 4, 3 + 79 * 2 + 2);
  }

  static void promise4_fault_4_at_the_81st_name_behind_a_lambda() {
    Checks.fault(MOST_NAMES + "(\\y.y)", 4, 3 + 79 * 2 + 2);
    Checks.fault(MOST_NAMES + "(\\ y.y)", 4, 3 + 79 * 2 + 3);
    Checks.fault("(\\x.x)".repeat(41), 4, 40 * 6 + 2);
  }

  static void promise4_fault_4_names_are_counted_anew_for_each_text() {
    SharedLambda x = new SharedLambda();
    for (int k = 0; k < 3; k++) {
      Checks.due("80 names", Checks.read(x, MOST_NAMES), 1 + 1 + 79 + 78 * 3);
      Checks.due("81 names", Checks.read(x, MOST_NAMES + "x"), -1 - (3 + 79 * 2));
    }
  }

  // ---- several faults

  static void promise4_the_first_fault_from_the_left_is_told() {
    Checks.fault("y )", 2, 0);
    Checks.fault("\\x.y(".repeat(50), 2, 3);
    Checks.fault(") y", 1, 0);
    Checks.fault("(".repeat(41) + ")", 3, 40);
    Checks.fault("x" + "(".repeat(41), 2, 0);
    Checks.fault(MOST_NAMES + "x y )", 4, 3 + 79 * 2);
    Checks.fault("\\x.".repeat(41) + "y", 3, 120);
    Checks.fault("\\x.(y", 2, 4);
    Checks.fault("\\x.".repeat(40) + "\\1", 3, 120);
  }

  static void promise4_of_1_and_2_at_one_place_1_is_told() {
    Checks.fault("y1234", 1, 0);
    Checks.fault("\\x.x1234", 1, 3);
  }

  static void promise4_of_1_and_3_at_one_place_1_is_told() {
    Checks.fault("\\x.".repeat(40) + "x \\y.y", 1, 122);
    Checks.fault("\\x." + "(".repeat(39) + "x \\", 1, 3 + 39 + 2);
  }

  static void promise4_of_1_and_4_at_one_place_1_is_told() {
    Checks.fault(MOST_NAMES + "x1234", 1, 3 + 79 * 2);
    Checks.fault(MOST_NAMES + "(\\y1234.y)", 1, 3 + 79 * 2 + 2);
  }

  static void promise4_of_2_and_4_at_one_place_2_is_told() {
    Checks.fault(MOST_NAMES + "y", 2, 3 + 79 * 2);
  }

  static void promise4_of_1_2_and_4_at_one_place_1_is_told() {
    Checks.fault(MOST_NAMES + "y1234", 1, 3 + 79 * 2);
  }

  // ---- with a fault all else stays

  private static void staysAs(String text, int fuel, String faulty, int kind) {
    SharedLambda x = Checks.of(text);
    SharedLambda twin = Checks.of(text);
    Checks.due("run", x.run(fuel), twin.run(fuel));
    Checks.due("a fault", Checks.read(x, faulty) < 0 ? 1 : 0, 1);
    Checks.due("the kind alone is new", Checks.state(x), kind + Checks.state(twin).substring(1));
    Checks.due("run on", x.run(1), twin.run(1));
    Checks.due("then", Checks.state(x), kind + Checks.state(twin).substring(1));
    Checks.due("run to the end", x.run(3000), twin.run(3000));
    Checks.due("at the end", Checks.state(x), kind + Checks.state(twin).substring(1));
  }

  static void promise4_a_fault_leaves_a_term_that_was_not_run() {
    staysAs(Texts.TWO + Texts.TWO, 0, "\\x.(x", 1);
  }

  static void promise4_a_fault_leaves_a_term_in_the_midst_of_its_run() {
    staysAs(Texts.TWO + Texts.TWO, 30, "\\x.\\y.\\z.x y z a", 2);
    staysAs("(\\x.\\y.x) (\\z.z) " + Texts.OMEGA, 1, "(".repeat(41), 3);
  }

  static void promise4_a_fault_leaves_a_result() {
    staysAs(Texts.TWO + Texts.TWO, 100, MOST_NAMES + "x", 4);
    SharedLambda x = Checks.of("\\x.\\y.x y");
    x.run(0);
    Checks.read(x, "?");
    Checks.due("letters", Checks.result(x), "\\\\(1 0)");
  }

  static void promise4_a_fault_leaves_the_first_term() {
    SharedLambda x = new SharedLambda();
    Checks.read(x, "\\x.\\y.\\z.x y z )");
    Checks.due("state", Checks.state(x), "1 0 0 0 0 3 0 0 1 0 0 1 0 0 ");
    Checks.due("run", x.run(0), 0);
    Checks.due("result", Checks.result(x), "\\0");
  }

  static void promise4_a_fault_leaves_nothing_of_its_text_to_the_next_one() {
    SharedLambda x = new SharedLambda();
    Checks.read(x, "\\x." + "x (".repeat(39) + "?");
    Checks.due("indexes begin at 0 again", Checks.read(x, Texts.indexes(30, 32)) > 0 ? 1 : 0, 1);
    Checks.due("up to 63 then", x.run(100000), 0);
    Checks.read(x, "\\x.x (\\y.y (");
    Checks.due("no \\ is open any more", Checks.read(x, "y"), -1);
    Checks.due("its kind", x.count(0), 2);
    Checks.due("no ( is open any more", Checks.read(x, "\\x.x)"), -5);
    Checks.due("no part is there any more", Checks.read(x, "\\x.x"), 3);
  }

  static void promise4_the_tape_is_empty_behind_a_fault() {
    SharedLambda x = new SharedLambda();
    Checks.read(x, Texts.padded("\\x.y", 600));
    Checks.due("bytes", x.count(7), 0);
    Checks.due("a good text then", Checks.read(x, "\\x.x x"), 7);
    Checks.due("no fault", x.count(0), 0);
  }
}
