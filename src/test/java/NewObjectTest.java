/** Promise 1: a new object has an empty tape and the term \x.x. */
public final class NewObjectTest {
  public static void main(String[] args) {
    SharedLambda x = new SharedLambda();
    Checks.due("state", Checks.state(x), "0 0 0 0 0 3 0 0 1 0 0 1 0 0 ");
    Checks.due("letter(0) before a run", Checks.thrown(() -> new SharedLambda().letter(0)), "IndexOutOfBoundsException");
    Checks.due("run(0)", x.run(0), 0);
    Checks.due("result", Checks.result(x), "\\0");
    Checks.due("state behind", Checks.state(x), "0 0 0 0 0 3 2 0 1 0 0 1 0 0 \\0");

    SharedLambda read = Checks.of("\\x.x");
    Checks.due("as if read", Checks.state(new SharedLambda()), Checks.state(read));

    SharedLambda other = new SharedLambda();
    Checks.read(x, "(\\x.x x) (\\x.x x)");
    Checks.type(x, "abc");
    x.run(7);
    Checks.due("an other object is not touched", Checks.state(other), "0 0 0 0 0 3 0 0 1 0 0 1 0 0 ");
    Checks.due("the first empty read", other.read(), -1);
    Checks.due("its fault", other.count(0), 1);
    Checks.due("the term is still there", other.run(0), 0);
    Checks.due("and its result", Checks.result(other), "\\0");
    Checks.end();
  }
}
