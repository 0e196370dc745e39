/** Promise 4: texts, their faults, and the graphs that they become. */
public final class ReadTest {
  public static void main(String[] args) {
    graphs();
    texts();
    badBytes();
    unbound();
    tooDeep();
    tooMany();
    severalFaults();
    faultChangesNothingElse();
    readMakesAnew();
    largest();
    Checks.end();
  }

  private static void fault(String text, int kind, int place) {
    SharedLambda x = new SharedLambda();
    Checks.due("read " + text, Checks.read(x, text), -1 - place);
    Checks.due("fault of " + text, x.count(0), kind);
    Checks.due("tape behind " + text, x.count(7), 0);
  }

  /** Numbers of lambdas, applications, fans, croissants, brackets, erasers. */
  private static void graph(String text, String kinds) {
    SharedLambda x = new SharedLambda();
    int size = Checks.read(x, text);
    StringBuilder found = new StringBuilder();
    int sum = 1;
    for (int kind = 0; kind <= 5; kind++) {
      found.append(x.nodes(kind)).append(kind < 5 ? " " : "");
      sum += x.nodes(kind);
    }
    Checks.due("kinds of " + text, found.toString(), kinds);
    Checks.due("nodes of " + text, size, sum);
    Checks.due("count(5) of " + text, x.count(5), sum);
    Checks.due("no fault of " + text, x.count(0), 0);
  }

  private static void graphs() {
    graph("\\x.x", "1 0 0 1 0 0");
    graph("\\x.\\y.x", "2 0 0 1 0 1");
    graph("\\x.\\y.y", "2 0 0 1 0 1");
    graph("\\x.x x", "1 1 1 2 1 0");
    graph("\\x.\\y.x y", "2 1 0 2 1 0");
    graph("\\x.x x x", "1 2 2 3 2 0");
    graph("\\x.x (x x)", "1 2 2 3 2 0");
    graph("\\x.\\y.x (x y)", "2 2 1 3 3 0");
    graph("\\x.\\y.\\z.x z (y z)", "3 3 1 4 4 0");
    graph("(\\x.x) (\\x.x)", "2 1 0 2 0 0");
    graph("\\x.(\\y.y) (\\z.x)", "3 1 0 2 1 1");
    graph("\\x.\\x.x", "2 0 0 1 0 1");
    graph("\\x.x (\\x.x)", "2 1 0 2 0 0");
    graph("\\x.\\y.(\\x.x y) x", "3 2 0 3 2 0");
  }

  private static void texts() {
    Checks.due("blanks of all kinds", Checks.read(new SharedLambda(), "\t\n\r \\\tx\n.\r x "), 3);
    Checks.due("no blanks", Checks.read(new SharedLambda(), "\\x.\\y.xy(xy)"), 16);
    Checks.due("parentheses", Checks.read(new SharedLambda(), "(((\\x.((x)))))"), 3);
    Checks.due("names of four bytes", Checks.read(new SharedLambda(), "\\x123.\\x124.x123"), 5);
    SharedLambda x = Checks.of("\\a.\\a1.\\a12.a1");
    x.run(0);
    Checks.due("a name is as long as may be", Checks.result(x), "\\\\\\1");
    x = Checks.of("\\x.\\y.\\x.y x");
    x.run(0);
    Checks.due("the innermost \\ that has it", Checks.result(x), "\\\\\\(1 0)");
    x = Checks.of("\\x.(\\x.x) x");
    x.run(10);
    Checks.due("a \\ that has ended has it no more", Checks.result(x), "\\0");
    x = Checks.of("\\a.\\b.\\c.a b c");
    x.run(0);
    Checks.due("the first applied to the second, that to the third", Checks.result(x), "\\\\\\((2 1) 0)");
    x = Checks.of("\\a.a (\\b.a b)");
    x.run(0);
    Checks.due("a term goes as far as can be", Checks.result(x), "\\(0 \\(1 0))");
  }

  private static void badBytes() {
    fault("", 1, 0);
    fault("  ", 1, 2);
    fault("\\", 1, 1);
    fault("\\ ", 1, 2);
    fault("\\x", 1, 2);
    fault("\\x  ", 1, 4);
    fault("\\x.", 1, 3);
    fault("\\x.(", 1, 4);
    fault("\\x.(x", 1, 5);
    fault("\\x.(x ", 1, 6);
    fault("()", 1, 1);
    fault(")", 1, 0);
    fault(".", 1, 0);
    fault("\\.", 1, 1);
    fault("\\\\x.x", 1, 1);
    fault("\\(x).x", 1, 1);
    fault("\\x x.x", 1, 3);
    fault("\\x.x)", 1, 4);
    fault("\\x.x.", 1, 4);
    fault("\\x.x \\y.y", 1, 5);
    fault("\\x.(\\y.y) \\z.z", 1, 10);
    fault("(\\x.x) )", 1, 7);
    fault("(\\x.)", 1, 4);
    fault("\\X.x", 1, 1);
    fault("\\1.x", 1, 1);
    fault("\\x.x 1", 1, 5);
    fault("\\x.x A", 1, 5);
    fault("\\x.x {", 1, 5);
    fault("\\x.x `", 1, 5);
    fault("\\x.x/", 1, 4);
    fault("\\x.x:", 1, 4);
    fault("\\x.x\013", 1, 4);
    fault("\\x.x\0", 1, 4);
    fault("\\x1234.x", 1, 1);
    fault("\\x.x1234", 1, 3);
    fault("\\x.x123456789", 1, 3);
    fault("\\x1234", 1, 1);
  }

  private static void unbound() {
    fault("x", 2, 0);
    fault(" x", 2, 1);
    fault("\\x.y", 2, 3);
    fault("\\x.x1", 2, 3);
    fault("\\x1.x", 2, 4);
    fault("(\\x.x) x", 2, 7);
    fault("\\y.(\\x.x) x", 2, 10);
    fault("\\x.x (\\y.y) y", 2, 12);
  }

  private static void tooDeep() {
    fault("(".repeat(40), 1, 40);
    fault("(".repeat(41), 3, 40);
    fault("\\x.".repeat(41) + "x", 3, 120);
    fault("\\x." + "(".repeat(40) + "x", 3, 42);
    fault("(\\x.".repeat(20) + "\\x.x", 3, 80);
    fault("(\\x.".repeat(20) + " (", 3, 81);
    fault("(".repeat(40) + "\\x.x", 3, 40);
    Checks.due("39 ( and a \\", Checks.read(new SharedLambda(), "(".repeat(39) + "\\x.x" + ")".repeat(39)), 3);
    Checks.due("40 \\", Checks.read(new SharedLambda(), "\\x.".repeat(40) + "x"), 1 + 40 + 39 + 1);
    Checks.due("20 and 20", Checks.read(new SharedLambda(), "(\\x.".repeat(20) + "x" + ")".repeat(20)), 1 + 20 + 19 + 1);
    String closed = "\\x." + "(x)".repeat(60);
    Checks.due("what is closed is not open", Checks.read(new SharedLambda(), closed), 1 + 1 + 59 + 59 + 60 + 59);
    String ended = "(\\x.x)".repeat(39);
    Checks.due("a \\ that has ended is not open", Checks.read(new SharedLambda(), ended), 1 + 39 + 39 + 38);
  }

  private static void tooMany() {
    String most = "\\x." + "x ".repeat(79);
    Checks.due("80 names", Checks.read(new SharedLambda(), most), 1 + 1 + 79 + 78 * 3);
    fault(most + "x", 4, 3 + 79 * 2);
    fault(most + "(\\y.y)", 4, 3 + 79 * 2 + 2);
    Checks.due("40 \\ with 40 names", Checks.read(new SharedLambda(), "(\\x.x)".repeat(40)), 1 + 80 + 39);
    fault("(\\x.x)".repeat(41), 4, 40 * 6 + 2);
    fault("\\x." + "x ".repeat(78) + "(\\y. y)", 4, 3 + 78 * 2 + 5);
  }

  private static void severalFaults() {
    String most = "\\x." + "x ".repeat(79);
    fault(most + "y", 2, 3 + 79 * 2);
    fault(most + "x1234", 1, 3 + 79 * 2);
    fault(most + "(\\y1234.y)", 1, 3 + 79 * 2 + 2);
    fault("y1234", 1, 0);
    fault("y )", 2, 0);
    fault("\\x.x \\" , 1, 5);
    fault("\\x.".repeat(40) + "x \\y.y", 1, 122);
    fault("(".repeat(41) + ")", 3, 40);
    fault("\\x.y(".repeat(50), 2, 3);
  }

  private static void faultChangesNothingElse() {
    SharedLambda x = Checks.of("(\\x.x x) (\\y.y)");
    x.run(3000);
    String before = Checks.state(x);
    Checks.due("a fault", Checks.read(x, "\\x.(x"), -6);
    Checks.due("the fault alone is new", Checks.state(x), "1" + before.substring(1));
    Checks.due("another", Checks.read(x, "\\x.z"), -4);
    Checks.due("its kind too", Checks.state(x), "2" + before.substring(1));
    Checks.due("letters are still there", Checks.result(x), "\\0");
    Checks.due("it runs as before", x.run(0), 0);
  }

  private static void readMakesAnew() {
    SharedLambda x = Checks.of("(\\x.\\y.y) ((\\x.x x) (\\x.x x))");
    x.run(3000);
    Checks.read(x, "q");
    Checks.due("a good text behind a bad one", Checks.read(x, "\\x.\\y.x"), 5);
    Checks.due("all counts are 0 again", Checks.state(x), "0 0 0 0 0 5 0 0 2 0 0 1 0 1 ");
    Checks.due("no letters", Checks.thrown(() -> x.letter(0)), "IndexOutOfBoundsException");
  }

  /** Many names through many arguments: far more brackets than text, and still within the 3000 nodes. */
  private static void largest() {
    StringBuilder text = new StringBuilder();
    StringBuilder all = new StringBuilder();
    for (int k = 0; k < 20; k++) {
      text.append('\\').append((char) ('a' + k)).append('.');
      all.append((char) ('a' + k)).append(' ');
    }
    text.append("a (".repeat(20)).append(all).append(")".repeat(20));
    PlainModel model = new PlainModel();
    model.take(model.parse(text.toString()));
    Checks.due("many brackets", Checks.read(new SharedLambda(), text.toString()), model.nodes.size());
    Checks.due("they are many", model.population(PlainModel.BRACKET) > 400 ? 1 : 0, 1);
  }
}
