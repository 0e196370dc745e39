/** Brings terms to their normal form by putting arguments in for variables, leftmost first, with a limit. */
final class PlainReducer {
  /** A variable by its number (form x), a function (form \) or an application (form @). */
  private static final class Tree {
    final char form;
    final int number;
    final Tree one;
    final Tree two;
    final int size;

    Tree(char form, int number, Tree one, Tree two) {
      this.form = form;
      this.number = number;
      this.one = one;
      this.two = two;
      size = 1 + (one == null ? 0 : one.size) + (two == null ? 0 : two.size);
    }
  }

  private static final class Enough extends RuntimeException {
    private static final long serialVersionUID = 1L;

    Enough() {
      super(null, null, false, false);
    }
  }

  private int left;

  /** The normal form as it is told, or null if the limit is not enough. */
  static String normal(PlainModel.Term term, int betas) {
    PlainReducer reducer = new PlainReducer();
    reducer.left = betas;
    try {
      Tree tree = reducer.normalize(of(term, new java.util.ArrayList<>()));
      StringBuilder told = new StringBuilder();
      tell(tree, told);
      return told.toString();
    } catch (Enough enough) {
      return null;
    }
  }

  private static Tree of(PlainModel.Term term, java.util.List<String> around) {
    if (term.form == 'x') {
      return new Tree('x', around.size() - 1 - around.lastIndexOf(term.name), null, null);
    }
    if (term.form == '@') {
      return new Tree('@', 0, of(term.one, around), of(term.two, around));
    }
    around.add(term.name);
    Tree body = of(term.one, around);
    around.remove(around.size() - 1);
    return new Tree('\\', 0, body, null);
  }

  private Tree normalize(Tree tree) {
    Tree head = headNormal(tree);
    if (head.form == '\\') {
      return new Tree('\\', 0, normalize(head.one), null);
    }
    if (head.form == '@') {
      return new Tree('@', 0, normalize(head.one), normalize(head.two));
    }
    return head;
  }

  private Tree headNormal(Tree tree) {
    Tree now = tree;
    while (now.form == '@') {
      Tree function = headNormal(now.one);
      if (function.form != '\\') {
        return new Tree('@', 0, function, now.two);
      }
      left--;
      now = put(function.one, 0, now.two);
      if (left < 0 || now.size > 200000) {
        throw new Enough();
      }
    }
    return now;
  }

  private static Tree put(Tree body, int depth, Tree argument) {
    switch (body.form) {
      case 'x':
        if (body.number == depth) {
          return shift(argument, 0, depth);
        }
        return body.number > depth ? new Tree('x', body.number - 1, null, null) : body;
      case '\\':
        return new Tree('\\', 0, put(body.one, depth + 1, argument), null);
      default:
        return new Tree('@', 0, put(body.one, depth, argument), put(body.two, depth, argument));
    }
  }

  private static Tree shift(Tree tree, int from, int by) {
    if (by == 0) {
      return tree;
    }
    switch (tree.form) {
      case 'x':
        return tree.number >= from ? new Tree('x', tree.number + by, null, null) : tree;
      case '\\':
        return new Tree('\\', 0, shift(tree.one, from + 1, by), null);
      default:
        return new Tree('@', 0, shift(tree.one, from, by), shift(tree.two, from, by));
    }
  }

  private static void tell(Tree tree, StringBuilder told) {
    if (tree.form == 'x') {
      told.append(tree.number);
    } else if (tree.form == '\\') {
      told.append('\\');
      tell(tree.one, told);
    } else {
      told.append('(');
      tell(tree.one, told);
      told.append(' ');
      tell(tree.two, told);
      told.append(')');
    }
  }
}
