/** Promises 2 and 3: type and keep. */
public final class TapeTest {
  public static void main(String[] args) {
    typeOrder();
    typeWrong();
    typeFull();
    keep();
    Checks.end();
  }

  private static void typeOrder() {
    SharedLambda x = new SharedLambda();
    Checks.due("one byte", x.type('\\', 1), 1);
    Checks.due("three bytes, the highest first", x.type(0x782e78L, 3), 4);
    Checks.due("count(7)", x.count(7), 4);
    Checks.due("read", x.read(), 3);
    Checks.due("the tape is empty then", x.count(7), 0);

    Checks.due("bytes above the lowest n are left out", x.type(0xffffffffffffff5cL, 1), 1);
    Checks.due("so too with four", x.type(0xaabbccdd20782e78L, 4), 5);
    Checks.due("read it", x.read(), 3);

    for (int n = 1; n <= 8; n++) {
      Checks.due("n = " + n, x.type(0x2020202020202020L, n), n * (n + 1) / 2);
    }
    Checks.due("blanks alone end too early", x.read(), -37);

    Checks.due("eight bytes", x.type(0x5c78205c79202e78L, 8), 8);
    Checks.due("fault at the second \\, place 3", x.read(), -4);

    x.type(-1L, 8);
    Checks.due("bytes of 255 stand nowhere", x.read(), -1);
    Checks.type(x, "\\x.x");
    x.type(0x80L, 1);
    Checks.due("128 is no blank and no letter", x.read(), -5);
  }

  private static void typeWrong() {
    SharedLambda x = new SharedLambda();
    x.type('a', 1);
    String before = Checks.state(x);
    for (int n : new int[] {0, 9, -1, 16, Integer.MAX_VALUE, Integer.MIN_VALUE}) {
      Checks.due("type n = " + n, Checks.thrown(() -> x.type(1L, n)), "IllegalArgumentException");
    }
    Checks.due("nothing changed", Checks.state(x), before);
  }

  private static void typeFull() {
    SharedLambda x = new SharedLambda();
    for (int k = 1; k <= 75; k++) {
      Checks.due("fill", x.type(0x2020202020202020L, 8), 8 * k);
    }
    Checks.due("one more", Checks.thrown(() -> x.type(32L, 1)), "UnsupportedOperationException");
    Checks.due("wrong n first", Checks.thrown(() -> x.type(32L, 9)), "IllegalArgumentException");
    Checks.due("still 600", x.count(7), 600);
    x.keep(595);
    Checks.due("six would be too many", Checks.thrown(() -> x.type(32L, 6)), "UnsupportedOperationException");
    Checks.due("nothing was typed", x.count(7), 595);
    Checks.due("five fit", x.type(32L, 5), 600);
    Checks.due("0 bytes are read at 595", x.read(), -596);
    Checks.due("and its kind", x.count(0), 1);

    for (int k = 1; k <= 75; k++) {
      x.type(0x2020202020202020L, 8);
    }
    Checks.due("ends too early at 600", x.read(), -601);
    Checks.due("empty again", x.count(7), 0);
  }

  private static void keep() {
    SharedLambda x = new SharedLambda();
    Checks.type(x, "\\x.xyz");
    Checks.due("keep 7 of 6", Checks.thrown(() -> x.keep(7)), "IllegalArgumentException");
    Checks.due("keep -1", Checks.thrown(() -> x.keep(-1)), "IllegalArgumentException");
    Checks.due("keep the least", Checks.thrown(() -> x.keep(Integer.MIN_VALUE)), "IllegalArgumentException");
    Checks.due("keep the most", Checks.thrown(() -> x.keep(Integer.MAX_VALUE)), "IllegalArgumentException");
    Checks.due("nothing changed", x.count(7), 6);
    x.keep(6);
    Checks.due("all of them", x.count(7), 6);
    x.keep(4);
    Checks.due("four", x.count(7), 4);
    Checks.due("what was cut off is gone", Checks.thrown(() -> x.keep(5)), "IllegalArgumentException");
    Checks.due("read the first four", x.read(), 3);
    x.keep(0);
    Checks.due("keep 0 of 0", x.count(7), 0);
    Checks.due("keep 1 of 0", Checks.thrown(() -> x.keep(1)), "IllegalArgumentException");
    Checks.type(x, "\\x.yy");
    x.keep(3);
    Checks.type(x, "x");
    Checks.due("typed behind what was kept", x.read(), 3);
    Checks.due("no fault", x.count(0), 0);
  }
}
