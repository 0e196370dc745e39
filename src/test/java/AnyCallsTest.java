import java.util.Random;

/** Calls made by chance: texts against the plain model, and nothing is ever thrown but what the document names. */
public final class AnyCallsTest {
  private static final String[] PIECES = {
    "\\", "x", ".", "\\x.", "\\y.", "(", ")", "x", "y", " ", "x1", "\\x1.", "z", "(\\x.x x)", "(\\y.\\x.y)", "\n",
    "x1234", "\\z.", "z z", "(x", "y)", "9", "A", "(\\f.\\x.f (f x))", "(\\x.(\\y.", "))",
  };
  private static final Random CHANCE = new Random(4711L);

  public static void main(String[] args) {
    for (int k = 0; k < 20000; k++) {
      text(k);
    }
    for (int k = 0; k < 200; k++) {
      calls();
    }
    Checks.end();
  }

  private static void text(int k) {
    StringBuilder text = new StringBuilder(k % 2 == 0 ? "\\x.\\y." : "");
    int pieces = CHANCE.nextInt(k % 50 == 0 ? 200 : 12);
    for (int n = 0; n < pieces; n++) {
      text.append(PIECES[CHANCE.nextInt(k % 3 == 0 ? 10 : PIECES.length)]);
    }
    text.setLength(Math.min(text.length(), 600));
    int due;
    int kind = 0;
    PlainModel model = new PlainModel();
    try {
      model.take(model.parse(text.toString()));
      due = model.nodes.size();
    } catch (PlainModel.Fault fault) {
      due = -1 - fault.place;
      kind = fault.kind;
    }
    SharedLambda x = new SharedLambda();
    Checks.due("read " + text, Checks.read(x, text.toString()), due);
    Checks.due("fault of " + text, x.count(0), kind);
  }

  private static int anyNumber(int most) {
    int[] odd = {-1, 0, 1, most, most + 1, Integer.MAX_VALUE, Integer.MIN_VALUE};
    return CHANCE.nextInt(4) == 0 ? odd[CHANCE.nextInt(odd.length)] : CHANCE.nextInt(most + 1);
  }

  private static void calls() {
    SharedLambda x = new SharedLambda();
    for (int k = 0; k < 512; k++) {
      String before = Checks.state(x);
      int call = CHANCE.nextInt(7);
      int number = anyNumber(new int[] {8, x.count(7), 0, 3000, 7, x.count(6), 5}[call]);
      long bytes = someBytes();
      String thrown = Checks.thrown(() -> make(x, call, bytes, number));
      if (!thrown.equals("nothing")) {
        String named = call == 0 || call == 1 || call == 3 ? "IllegalArgumentException" : "IndexOutOfBoundsException";
        boolean isFull = call == 0 && thrown.equals("UnsupportedOperationException");
        Checks.due("thrown by call " + call, thrown, isFull ? thrown : named);
        Checks.due("a call that throws changes nothing", Checks.state(x), before);
      }
    }
  }

  private static long someBytes() {
    if (CHANCE.nextInt(5) == 0) {
      return CHANCE.nextLong();
    }
    long bytes = 0;
    String texts = "\\x.\\x.\\x.\\y.\\y.((x x x)y y(\\x.x x)(\\y.y)x x";
    int from = CHANCE.nextInt(texts.length() - 8);
    for (int k = 0; k < 8; k++) {
      bytes = bytes << 8 | texts.charAt(from + k);
    }
    return bytes;
  }

  private static void make(SharedLambda x, int call, long bytes, int number) {
    switch (call) {
      case 0:
        x.type(bytes, number);
        break;
      case 1:
        x.keep(number);
        break;
      case 2:
        x.read();
        break;
      case 3:
        x.run(number);
        break;
      case 4:
        x.count(number);
        break;
      case 5:
        x.letter(number);
        break;
      default:
        x.nodes(number);
        break;
    }
  }
}
