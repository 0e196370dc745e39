import java.lang.reflect.InvocationTargetException;
import java.lang.reflect.Method;
import java.util.Arrays;
import java.util.Comparator;

/** What all tests share: running cases, comparing answers, typing texts, and telling how it ended. */
final class Checks {
  private static int checked = 0;
  private static int wrong = 0;

  private Checks() {}

  static void due(String what, long got, long want) {
    checked++;
    if (got != want) {
      wrong++;
      System.out.println(what + " answered " + got + ", due is " + want);
    }
  }

  static void due(String what, String got, String want) {
    checked++;
    if (!got.equals(want)) {
      wrong++;
      System.out.println(what + " answered " + got + ", due is " + want);
    }
  }

  /** Ends the test; a test that checked nothing fails. */
  static void end() {
    System.out.println(checked + " answers looked at, " + wrong + " not as due");
    if (wrong > 0 || checked == 0) {
      System.exit(1);
    }
  }

  /** Runs the cases of a test, its methods whose names begin with "promise" and the promise's number, and ends it. */
  static void cases(Class<?> test) {
    Method[] methods = test.getDeclaredMethods();
    Arrays.sort(methods, Comparator.comparing(Method::getName));
    for (Method method : methods) {
      if (method.getName().matches("promise[1-8]_.*") && method.getParameterCount() == 0) {
        runCase(method);
      }
    }
    end();
  }

  private static void runCase(Method method) {
    int checkedBefore = checked;
    int wrongBefore = wrong;
    try {
      method.setAccessible(true);
      method.invoke(null);
    } catch (InvocationTargetException e) {
      wrong++;
      System.out.println(method.getName() + " threw " + e.getCause());
    } catch (IllegalAccessException e) {
      wrong++;
      System.out.println(method.getName() + " cannot be called");
    }
    if (checked == checkedBefore) {
      wrong++;
      System.out.println(method.getName() + " looked at nothing");
    }
    System.out.println((wrong == wrongBefore ? "  ok     " : "  FAILED ") + method.getName());
  }

  interface Call {
    void call();
  }

  interface CallOn {
    void on(SharedLambda x);
  }

  interface Maker {
    SharedLambda make();
  }

  /** The name of the exception that a call throws, or "nothing". */
  static String thrown(Call call) {
    try {
      call.call();
    } catch (RuntimeException e) {
      return e.getClass().getSimpleName();
    }
    return "nothing";
  }

  /** A refused call throws what is due; a twin on which it was not made answers all later calls in the same way. */
  static void refused(String what, String exception, Maker maker, CallOn call) {
    SharedLambda x = maker.make();
    SharedLambda twin = maker.make();
    due(what, thrown(() -> call.on(x)), exception);
    due("all later calls, behind " + what, later(x), later(twin));
  }

  /** Refused in whatever state the object is. */
  static void refusedAlways(String what, String exception, CallOn call) {
    Maker[] makers = makers();
    for (int k = 0; k < makers.length; k++) {
      refused(what + " in state " + k, exception, makers[k], call);
    }
  }

  /** States of all kinds: new, each answer of run, a fault, a tape that is empty, begun, full. */
  private static Maker[] makers() {
    return new Maker[] {
      SharedLambda::new,
      () -> typed(new SharedLambda(), "\\x.x"),
      () -> typed(new SharedLambda(), Texts.padded("\\x.\\y.x y", 600)),
      () -> typed(ran(Texts.TWO + Texts.TWO, 5), "(\\x.x x) "),
      () -> typed(ran(Texts.TWO + Texts.TWO, 3000), "("),
      () -> ran("\\x.\\y.x y", 0),
      () -> ran("(\\x.x (x x)) (\\x.x (x x))", 100000),
      () -> ran(Texts.THREE + Texts.TWO + Texts.TWO, 3000),
      () -> faulty(ran("(\\x.x x) (\\y.y)", 3000), "\\x.y"),
      () -> faulty(ran("(\\x.x x) (\\y.y)", 3), "\\x.x)"),
    };
  }

  /** All that can still be asked of an object, in one text. */
  private static String later(SharedLambda x) {
    StringBuilder all = new StringBuilder(state(x));
    for (int fuel : new int[] {0, 1, 2000}) {
      all.append(" run ").append(x.run(fuel)).append(' ').append(state(x));
    }
    all.append(" type ").append(thrown(() -> x.type(' ', 1))).append(' ').append(x.count(7));
    all.append(" read ").append(x.read()).append(' ').append(state(x));
    return all.append(" run ").append(x.run(100)).append(' ').append(state(x)).toString();
  }

  private static SharedLambda ran(String text, int fuel) {
    SharedLambda x = of(text);
    x.run(fuel);
    return x;
  }

  private static SharedLambda faulty(SharedLambda x, String text) {
    read(x, text);
    return x;
  }

  static SharedLambda typed(SharedLambda x, String text) {
    type(x, text);
    return x;
  }

  /** Types a text behind the tape, eight bytes a call. */
  static void type(SharedLambda x, String text) {
    for (int from = 0; from < text.length(); from += 8) {
      int to = Math.min(from + 8, text.length());
      long bytes = 0;
      for (int k = from; k < to; k++) {
        bytes = bytes << 8 | text.charAt(k) & 255;
      }
      x.type(bytes, to - from);
    }
  }

  static int read(SharedLambda x, String text) {
    type(x, text);
    return x.read();
  }

  /** Reading the text answers the place of its fault, count(0) the kind, and the tape is empty then. */
  static void fault(String text, int kind, int place) {
    SharedLambda x = new SharedLambda();
    due("read " + text, read(x, text), -1 - place);
    due("fault of " + text, x.count(0), kind);
    due("tape behind " + text, x.count(7), 0);
  }

  static SharedLambda of(String text) {
    SharedLambda x = new SharedLambda();
    if (read(x, text) < 0) {
      throw new IllegalStateException("fault in " + text);
    }
    return x;
  }

  static String result(SharedLambda x) {
    StringBuilder letters = new StringBuilder();
    for (int i = 0; i < x.count(6); i++) {
      letters.append((char) x.letter(i));
    }
    return letters.toString();
  }

  /** How many meetings were done since the term was read. */
  static int meetings(SharedLambda x) {
    return x.count(1) + x.count(2) + x.count(3);
  }

  /** All that can be asked of an object without changing it, so that two states can be told apart. */
  static String state(SharedLambda x) {
    StringBuilder all = new StringBuilder();
    for (int what = 0; what <= 7; what++) {
      all.append(x.count(what)).append(' ');
    }
    for (int kind = 0; kind <= 5; kind++) {
      all.append(x.nodes(kind)).append(' ');
    }
    return all.append(result(x)).toString();
  }
}
