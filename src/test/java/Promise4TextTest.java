/** Promise 4, read: which texts are terms, and what they mean. */
public final class Promise4TextTest {
  public static void main(String[] args) {
    Checks.cases(Promise4TextTest.class);
  }

  /** The text is a term of so many nodes, and of this normal form, for which no meeting is needed. */
  private static void term(String text, int nodes, String told) {
    SharedLambda x = new SharedLambda();
    Checks.due("read " + text, Checks.read(x, text), nodes);
    Checks.due("no fault of " + text, x.count(0), 0);
    Checks.due("run of " + text, x.run(0), 0);
    Checks.due("meaning of " + text, Checks.result(x), told);
  }

  static void promise4_each_blank_may_stand_between_all_parts() {
    for (String blank : new String[] {"\t", "\n", "\r", " ", " \t\r\n"}) {
      String text = String.join(blank, "", "\\", "x", ".", "\\", "y", ".", "(", "x", ")", "(", "(", "y", ")", "x", ")", "");
      term(text, 1 + 2 + 2 + 1 + 3 + 3, "\\\\(1 (0 1))");
    }
  }

  static void promise4_no_blank_need_stand_anywhere() {
    term("\\x.\\y.x(yx)y", 1 + 2 + 3 + 2 + 4 + 4, "\\\\((1 (0 1)) 0)");
  }

  static void promise4_the_bytes_beside_the_blanks_are_none() {
    for (int value : new int[] {0, 8, 11, 12, 14, 31, 33, 160}) {
      Checks.fault("\\x.x" + (char) value, 1, 4);
      Checks.fault((char) value + "\\x.x", 1, 0);
      Checks.fault("\\" + (char) value + "x.x", 1, 1);
      Checks.fault("\\x" + (char) value + ".x", 1, 2);
      Checks.fault("\\x." + (char) value + "x", 1, 3);
    }
  }

  static void promise4_names_begin_with_a_to_z() {
    for (char letter = 'a'; letter <= 'z'; letter++) {
      term("\\" + letter + "." + letter, 3, "\\0");
    }
  }

  static void promise4_the_bytes_beside_a_and_z_begin_no_name() {
    for (char letter : new char[] {'`', '{', 'A', 'Z', '@', '[', '_', 'a' + 128}) {
      Checks.fault("\\" + letter + ".x", 1, 1);
      Checks.fault("\\x." + letter, 1, 3);
      Checks.fault("\\x.x " + letter, 1, 5);
    }
  }

  static void promise4_names_go_on_with_0_to_9() {
    for (char digit = '0'; digit <= '9'; digit++) {
      term("\\x" + digit + ".\\x.x" + digit, 5, "\\\\1");
    }
  }

  static void promise4_the_bytes_beside_0_and_9_are_no_digits() {
    for (char other : new char[] {'/', ':', '0' + 128}) {
      Checks.fault("\\x" + other + ".x", 1, 2);
      Checks.fault("\\x.x" + other, 1, 4);
    }
  }

  static void promise4_a_name_does_not_begin_with_a_digit() {
    Checks.fault("\\1.x", 1, 1);
    Checks.fault("\\x.1", 1, 3);
    Checks.fault("\\x.x 1", 1, 5);
  }

  static void promise4_a_second_letter_is_a_second_name() {
    term("\\x.\\y.xy", 1 + 2 + 1 + 2 + 1, "\\\\(1 0)");
    Checks.fault("\\xy.x", 1, 2);
  }

  static void promise4_a_name_of_1_byte_is_taken() {
    term("\\x.x", 3, "\\0");
  }

  static void promise4_a_name_of_4_bytes_is_taken() {
    term("\\x123.\\x12.x123", 5, "\\\\1");
    term("\\z999.\\a000.z999 a000", 7, "\\\\(1 0)");
  }

  static void promise4_a_name_of_5_bytes_is_refused() {
    Checks.fault("\\x1234.x", 1, 1);
    Checks.fault("\\ x1234.x", 1, 2);
    Checks.fault("\\x.x1234", 1, 3);
    Checks.fault("\\x.x x1234 x", 1, 5);
    Checks.fault("\\x.x123456789012345678901234567890", 1, 3);
  }

  static void promise4_a_name_of_4_bytes_is_all_of_it_looked_at() {
    term("\\a123.\\b123.\\a124.\\a133.\\a223.a123", 1 + 5 + 4 + 1, "\\\\\\\\\\4");
  }

  static void promise4_a_name_is_as_long_as_may_be() {
    term("\\a.\\a1.\\a12.a1", 3 + 3 + 1, "\\\\\\1");
    Checks.fault("\\a.a1", 2, 3);
    Checks.fault("\\a1.a", 2, 4);
    Checks.fault("\\a.a 1", 1, 5);
  }

  static void promise4_names_with_a_0_before_are_others() {
    term("\\x0.\\x00.\\x.x0", 3 + 3 + 1, "\\\\\\2");
    term("\\x1.\\x01.x1", 5, "\\\\1");
  }

  static void promise4_a_term_without_a_part_is_refused() {
    Checks.fault("", 1, 0);
    Checks.fault("()", 1, 1);
    Checks.fault("( )", 1, 2);
    Checks.fault("\\x.()", 1, 4);
    Checks.fault("(\\x.)", 1, 4);
    Checks.fault("\\x.", 1, 3);
    Checks.fault("\\x.x ()", 1, 6);
  }

  static void promise4_a_term_of_one_part_is_taken() {
    term("\\x.x", 3, "\\0");
    term("(\\x.x)", 3, "\\0");
    term("(((\\x.((x)))))", 3, "\\0");
  }

  static void promise4_the_first_part_is_applied_to_the_second_that_to_the_third() {
    term("\\a.\\b.\\c.a b c", 1 + 3 + 2 + 3 + 2, "\\\\\\((2 1) 0)");
    term("\\a.\\b.\\c.a (b c)", 1 + 3 + 2 + 3 + 3, "\\\\\\(2 (1 0))");
    term("\\a.\\b.\\c.\\d.a b c d", 1 + 4 + 3 + 4 + 3, "\\\\\\\\(((3 2) 1) 0)");
  }

  static void promise4_a_lambda_stands_at_the_beginning_of_a_term_alone() {
    Checks.fault("\\x.x \\y.y", 1, 5);
    Checks.fault("\\x.x\\y.y", 1, 4);
    Checks.fault("\\x.(\\y.y) \\z.z", 1, 10);
    Checks.fault("(\\x.x)\\y.y", 1, 6);
    Checks.fault("\\x.(x \\y.y)", 1, 6);
    term("\\x.\\y.y", 5, "\\\\0");
    term("\\x.x (\\y.y)", 1 + 2 + 1 + 2, "\\(0 \\0)");
  }

  static void promise4_the_term_behind_a_dot_goes_as_far_as_can_be() {
    term("\\a.a (\\b.a b)", 1 + 2 + 2 + 1 + 3 + 2, "\\(0 \\(1 0))");
    term("\\a.(\\b.\\c.b c a) ", 1 + 3 + 2 + 3 + 2, "\\\\\\((1 0) 2)");
  }

  static void promise4_a_name_means_the_innermost_lambda_that_has_it() {
    term("\\x.\\x.x", 5, "\\\\0");
    term("\\x.\\y.\\x.y x", 1 + 3 + 1 + 1 + 2 + 1, "\\\\\\(1 0)");
    term("\\x.x (\\x.x) x", 1 + 2 + 2 + 3 + 1 + 1, "\\((0 \\0) 0)");
  }

  static void promise4_a_lambda_whose_term_has_ended_has_no_name_any_more() {
    Checks.fault("(\\x.x) x", 2, 7);
    Checks.fault("\\y.(\\x.x) x", 2, 10);
    Checks.fault("\\y.y (\\x.x (\\z.z) z)", 2, 18);
  }

  static void promise4_the_tape_is_empty_behind_a_term() {
    SharedLambda x = new SharedLambda();
    Checks.due("read", Checks.read(x, "\\x.x x"), 7);
    Checks.due("bytes", x.count(7), 0);
    Checks.due("no old byte is read again", Checks.read(x, "\\x.x"), 3);
    Checks.due("the empty tape is no term", x.read(), -1);
  }

  static void promise4_a_text_of_600_bytes_is_read() {
    SharedLambda x = new SharedLambda();
    Checks.due("blanks before", Checks.read(x, " ".repeat(596) + "\\x.x"), 3);
    Checks.due("blanks behind", Checks.read(x, Texts.padded("\\x.x", 600)), 3);
    Checks.due("blanks between", Checks.read(x, "\\x" + " ".repeat(596) + ".x"), 3);
    String names = "\\x123." + (" ".repeat(3) + "x123").repeat(79) + " ".repeat(41);
    Checks.due("names", Checks.read(x, names), 1 + 1 + 79 + 78 * 3);
  }

  static void promise4_a_new_term_begins_all_counts_anew() {
    SharedLambda x = Checks.of("(\\x.\\y.y) " + Texts.OMEGA);
    x.run(3000);
    Checks.read(x, "q");
    Checks.due("read", Checks.read(x, "\\x.\\y.x"), 5);
    Checks.due("state", Checks.state(x), "0 0 0 0 0 5 0 0 2 0 0 1 0 1 ");
    Checks.due("no letters", Checks.thrown(() -> x.letter(0)), "IndexOutOfBoundsException");
  }

  static void promise4_the_same_term_read_again_is_as_new() {
    SharedLambda x = Checks.of(Texts.TWO + Texts.TWO);
    String before = Checks.state(x);
    x.run(40);
    Checks.read(x, Texts.TWO + Texts.TWO);
    Checks.due("state", Checks.state(x), before);
    x.run(100000);
    Checks.due("result", Checks.result(x), "\\\\(1 (1 (1 (1 0))))");
  }

  static void promise4_a_term_is_read_behind_a_graph_without_room() {
    SharedLambda x = Checks.of("(\\x.x x x x) (\\x.x x x x)");
    Checks.due("no room", x.run(100000), 2);
    Checks.due("3000 nodes", x.count(5), 3000);
    Checks.due("read", Checks.read(x, Texts.TWO + Texts.TWO), 24);
    Checks.due("run", x.run(100000), 0);
    Checks.due("result", Checks.result(x), "\\\\(1 (1 (1 (1 0))))");
  }
}
