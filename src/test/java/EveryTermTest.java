import java.util.ArrayList;
import java.util.List;

/** Every term without free names that has at most 10 names, abstractions and applications, compared with the model. */
public final class EveryTermTest {
  private static final int MOST_PARTS = 10;
  private static final int[] FUELS = {0, 1, 2, 3, 150};

  private static final int[] ANSWERS = new int[5];
  private static int terms = 0;

  public static void main(String[] args) {
    for (int parts = 2; parts <= MOST_PARTS; parts++) {
      for (String text : terms(parts, 0)) {
        terms++;
        compare(text);
      }
    }
    Checks.due("terms", terms, 10180);
    Checks.due("no run is NO ROOM, TOO LONG, WRONG", ANSWERS[2] + ANSWERS[3] + ANSWERS[4], 0);
    Checks.end();
  }

  /** All terms of so many parts in which the first so many letters may be free. */
  private static List<String> terms(int parts, int bound) {
    List<String> all = new ArrayList<>();
    if (parts == 1) {
      for (int k = 0; k < bound; k++) {
        all.add(String.valueOf((char) ('a' + k)));
      }
      return all;
    }
    for (String body : terms(parts - 1, bound + 1)) {
      all.add("(\\" + (char) ('a' + bound) + "." + body + ")");
    }
    for (int left = 1; left < parts - 1; left++) {
      for (String function : terms(left, bound)) {
        for (String argument : terms(parts - 1 - left, bound)) {
          all.add("(" + function + " " + argument + ")");
        }
      }
    }
    return all;
  }

  private static void compare(String text) {
    PlainModel model = PlainModel.of(text);
    SharedLambda x = new SharedLambda();
    Checks.due("read " + text, Checks.read(x, text), model.nodes.size());
    int answer = 1;
    for (int k = 0; k < FUELS.length && answer == 1; k++) {
      String call = "run(" + FUELS[k] + ") of " + text;
      answer = model.run(FUELS[k]);
      Checks.due(call, x.run(FUELS[k]), answer);
      Checks.due("state behind " + call, Checks.state(x), model.state());
    }
    ANSWERS[answer]++;
    if (answer == 0) {
      Checks.due("normal form of " + text, model.result, PlainReducer.normal(model.parse(text), 20000));
    }
  }
}
