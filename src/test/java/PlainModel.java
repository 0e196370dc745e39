import java.util.ArrayList;
import java.util.HashMap;
import java.util.LinkedHashMap;
import java.util.LinkedHashSet;
import java.util.List;
import java.util.Map;
import java.util.Set;

/**
 * The document's words, done as slowly and as literally as they stand: nodes are objects, each walk begins anew at
 * the root, and erasing looks at every node until nothing changes. The class is compared with it.
 */
final class PlainModel {
  static final int LAMBDA = 0;
  static final int APPLICATION = 1;
  static final int FAN = 2;
  static final int CROISSANT = 3;
  static final int BRACKET = 4;
  static final int ERASER = 5;
  static final int ROOT = 6;
  static final int[] PORTS = {3, 3, 3, 2, 2, 1, 1};

  static final class Node {
    final int kind;
    final int index;
    final Port[] ports;

    Node(int kind, int index) {
      this.kind = kind;
      this.index = index;
      ports = new Port[PORTS[kind]];
      for (int k = 0; k < ports.length; k++) {
        ports[k] = new Port(this, k);
      }
    }
  }

  static final class Port {
    final Node node;
    final int q;
    Port other;

    Port(Node node, int q) {
      this.node = node;
      this.q = q;
    }
  }

  /** A term: a name (a number of the lambda counted from outside), a lambda (body in one), or an application. */
  static final class Term {
    final char form;
    final String name;
    final Term one;
    final Term two;

    Term(char form, String name, Term one, Term two) {
      this.form = form;
      this.name = name;
      this.one = one;
      this.two = two;
    }
  }

  static final class Fault extends RuntimeException {
    private static final long serialVersionUID = 1L;
    final int kind;
    final int place;

    Fault(int kind, int place) {
      this.kind = kind;
      this.place = place;
    }
  }

  // ---- texts

  private String text;
  private int at;
  private int names;
  private int open;
  private List<String> around;

  Term parse(String words) {
    text = words;
    at = 0;
    names = 0;
    open = 0;
    around = new ArrayList<>();
    Term term = parseTerm();
    blanks();
    if (at < text.length()) {
      throw new Fault(1, at);
    }
    return term;
  }

  private Term parseTerm() {
    blanks();
    if (next() == '\\') {
      enter();
      blanks();
      int place = at;
      String name = name();
      count(place);
      blanks();
      if (next() != '.') {
        throw new Fault(1, at);
      }
      at++;
      around.add(name);
      Term body = parseTerm();
      around.remove(around.size() - 1);
      open--;
      return new Term('\\', name, body, null);
    }
    Term all = parsePart();
    blanks();
    while (next() == '(' || next() >= 'a' && next() <= 'z') {
      all = new Term('@', null, all, parsePart());
      blanks();
    }
    return all;
  }

  private Term parsePart() {
    if (next() == '(') {
      enter();
      Term inner = parseTerm();
      blanks();
      if (next() != ')') {
        throw new Fault(1, at);
      }
      at++;
      open--;
      return inner;
    }
    int place = at;
    String name = name();
    if (!around.contains(name)) {
      throw new Fault(2, place);
    }
    count(place);
    return new Term('x', name, null, null);
  }

  private void enter() {
    if (open == 40) {
      throw new Fault(3, at);
    }
    open++;
    at++;
  }

  private void count(int place) {
    names++;
    if (names > 80) {
      throw new Fault(4, place);
    }
  }

  private String name() {
    int place = at;
    if (next() < 'a' || next() > 'z') {
      throw new Fault(1, at);
    }
    at++;
    while (next() >= '0' && next() <= '9') {
      at++;
    }
    if (at - place > 4) {
      throw new Fault(1, place);
    }
    return text.substring(place, at);
  }

  private int next() {
    return at < text.length() ? text.charAt(at) : -1;
  }

  private void blanks() {
    while (next() == 9 || next() == 10 || next() == 13 || next() == 32) {
      at++;
    }
  }

  // ---- graphs

  final Set<Node> nodes = new LinkedHashSet<>();
  Node root;
  int betas;
  int annihilations;
  int passings;
  int erased;

  // The document's limits; a test lifts one to see what would have come behind it.
  int mostNodes = 3000;
  int mostIndex = 63;
  int mostSteps = 4000;
  int mostLetters = 4000;
  /** How many nodes there were behind the latest meeting, before erasing. */
  int beforeErasing;

  private static final class Part {
    Port root;
    final Map<String, Port> free = new LinkedHashMap<>();
  }

  void take(Term term) {
    nodes.clear();
    root = make(ROOT, -1);
    wire(root.ports[0], graphOf(term, 0).root);
    betas = 0;
    annihilations = 0;
    passings = 0;
    erased = 0;
    erase();
  }

  private Node make(int kind, int index) {
    Node node = new Node(kind, index);
    nodes.add(node);
    return node;
  }

  private static void wire(Port a, Port b) {
    a.other = b;
    b.other = a;
  }

  private Part graphOf(Term term, int n) {
    if (term.form == 'x') {
      Part part = new Part();
      Node croissant = make(CROISSANT, n);
      part.root = croissant.ports[1];
      part.free.put(term.name, croissant.ports[0]);
      return part;
    }
    if (term.form == '\\') {
      Part part = graphOf(term.one, n);
      Node lambda = make(LAMBDA, n);
      wire(lambda.ports[1], part.root);
      Port bound = part.free.remove(term.name);
      wire(lambda.ports[2], bound != null ? bound : make(ERASER, -1).ports[0]);
      part.root = lambda.ports[0];
      return part;
    }
    Part function = graphOf(term.one, n);
    Part argument = graphOf(term.two, n + 1);
    Node application = make(APPLICATION, n);
    wire(application.ports[0], function.root);
    wire(application.ports[2], argument.root);
    function.root = application.ports[1];
    for (Map.Entry<String, Port> entry : argument.free.entrySet()) {
      Node bracket = make(BRACKET, n);
      wire(bracket.ports[1], entry.getValue());
      Port port = bracket.ports[0];
      Port ofFunction = function.free.get(entry.getKey());
      if (ofFunction != null) {
        Node fan = make(FAN, n);
        wire(fan.ports[1], ofFunction);
        wire(fan.ports[2], port);
        port = fan.ports[0];
      }
      function.free.put(entry.getKey(), port);
    }
    return function;
  }

  /** The model of a text that is a term. */
  static PlainModel of(String text) {
    PlainModel model = new PlainModel();
    model.take(model.parse(text));
    return model;
  }

  /** As Checks.state tells it of the class, with no fault and an empty tape. */
  String state() {
    StringBuilder all = new StringBuilder("0 ");
    all.append(betas).append(' ').append(annihilations).append(' ').append(passings).append(' ');
    all.append(erased).append(' ').append(nodes.size()).append(' ').append(result.length()).append(" 0 ");
    for (int kind = 0; kind <= 5; kind++) {
      all.append(population(kind)).append(' ');
    }
    return all.append(result).toString();
  }

  int population(int kind) {
    int count = 0;
    for (Node node : nodes) {
      count += node.kind == kind ? 1 : 0;
    }
    return count;
  }

  // ---- erasing

  private void erase() {
    boolean changed = true;
    while (changed) {
      changed = false;
      for (Node node : new ArrayList<>(nodes)) {
        if (nodes.contains(node)) {
          changed |= eraseOne(node);
        }
      }
    }
  }

  private boolean erasedAt(Node node, int k) {
    return node.ports[k].other.node.kind == ERASER;
  }

  private boolean eraseOne(Node node) {
    if (node.kind == ROOT) {
      return false;
    }
    if (node.kind == ERASER) {
      if (!erasedAt(node, 0)) {
        return false;
      }
      nodes.remove(node.ports[0].other.node);
      nodes.remove(node);
      return true;
    }
    boolean one = node.kind == CROISSANT || node.kind == BRACKET || node.kind == APPLICATION;
    if (erasedAt(node, 0)) {
      goWith(node, 0, 0);
    } else if (one && erasedAt(node, 1)) {
      goWith(node, 1, 1);
    } else if (node.kind == FAN && erasedAt(node, 1) && erasedAt(node, 2)) {
      goWith(node, 1, 2);
    } else {
      return false;
    }
    return true;
  }

  /** The node goes, and the erasers at its ports from .. to; all others get one. */
  private void goWith(Node node, int from, int to) {
    List<Port> ends = new ArrayList<>();
    for (int k = 0; k < node.ports.length; k++) {
      if (k >= from && k <= to) {
        nodes.remove(node.ports[k].other.node);
      } else {
        ends.add(node.ports[k].other);
      }
    }
    // a wire between two of the node's own ports would get an eraser at both ends: these go at once
    for (Port end : ends) {
      if (end.node != node) {
        wire(end, make(ERASER, -1).ports[0]);
      }
    }
    nodes.remove(node);
    erased++;
  }

  // ---- meeting

  private static boolean control(Node node) {
    return node.kind == FAN || node.kind == CROISSANT || node.kind == BRACKET;
  }

  private static boolean passes(Node c, Node u) {
    return control(c) && u.index > c.index && u.kind != ERASER && u.kind != ROOT;
  }

  /** 0 if they met, 2 if there is no room, 4 if that is wrong. */
  private int meet(Node a, Node b) {
    boolean beta = a.index == b.index && a.kind + b.kind == 1 && a.kind != b.kind;
    boolean annihilation = a.index == b.index && a.kind == b.kind && control(a);
    if (beta || annihilation) {
      joinBoth(a, b);
      betas += beta ? 1 : 0;
      annihilations += annihilation ? 1 : 0;
    } else if (passes(a, b) || passes(b, a)) {
      Node c = passes(a, b) ? a : b;
      if (!pass(c, c == a ? b : a)) {
        return 2;
      }
      passings++;
    } else {
      return 4;
    }
    beforeErasing = nodes.size();
    erase();
    return 0;
  }

  private void joinBoth(Node a, Node b) {
    List<Port> ends = new ArrayList<>();
    List<Port> outers = new ArrayList<>();
    for (Node node : new Node[] {a, b}) {
      for (int k = 1; k < node.ports.length; k++) {
        Port outer = node.ports[k].other;
        if (outer.node != a && outer.node != b) {
          outers.add(outer);
          ends.add(through(node.ports[k], a, b));
        }
      }
    }
    for (int k = 0; k < ends.size(); k++) {
      wire(outers.get(k), ends.get(k));
    }
    nodes.remove(a);
    nodes.remove(b);
  }

  /** Where a wire that comes into a port of the two goes on to, outside of both. */
  private static Port through(Port in, Node a, Node b) {
    Port out = (in.node == a ? b : a).ports[in.q].other;
    return out.node == a || out.node == b ? through(out, a, b) : out;
  }

  private boolean pass(Node c, Node u) {
    int copies = c.kind == FAN ? 2 : 1;
    int index = u.index + (c.kind == CROISSANT ? -1 : c.kind == BRACKET ? 1 : 0);
    if (nodes.size() - 2 + copies + u.ports.length - 1 > mostNodes || index > mostIndex) {
      return false;
    }
    Map<Port, Port> instead = new HashMap<>();
    Node[] like = new Node[copies];
    for (int s = 0; s < copies; s++) {
      like[s] = make(u.kind, index);
      instead.put(c.ports[s + 1], like[s].ports[0]);
    }
    for (int k = 1; k < u.ports.length; k++) {
      Node likeC = make(c.kind, c.index);
      instead.put(u.ports[k], likeC.ports[0]);
      for (int s = 0; s < copies; s++) {
        wire(like[s].ports[k], likeC.ports[s + 1]);
      }
    }
    for (Map.Entry<Port, Port> entry : instead.entrySet()) {
      Port end = entry.getKey().other;
      wire(entry.getValue(), instead.getOrDefault(end, end));
    }
    nodes.remove(c);
    nodes.remove(u);
    return true;
  }

  // ---- walks

  /** A level: B box, 1 first, 2 second, P pair. */
  static final class Level {
    final char form;
    final Level one;
    final Level two;
    final int hash;

    Level(char form, Level one, Level two) {
      this.form = form;
      this.one = one;
      this.two = two;
      hash = form + (one == null ? 0 : 31 * one.hash) + (two == null ? 0 : 1009 * two.hash);
    }

    static boolean same(Level a, Level b) {
      if (a == b) {
        return true;
      }
      return a != null && b != null && a.hash == b.hash && a.form == b.form && same(a.one, b.one)
          && same(a.two, b.two);
    }
  }

  private static final Level BOX = new Level('B', null, null);

  private static final class Stop extends RuntimeException {
    private static final long serialVersionUID = 1L;
    final int answer;

    Stop(int answer) {
      super(null, null, false, false);
      this.answer = answer;
    }
  }

  private static final class Read {
    final Node lambda;
    final List<Level> context;

    Read(Node lambda, List<Level> context) {
      this.lambda = lambda;
      this.context = context;
    }
  }

  private static final int MEET = -1;
  private Port last;
  /** Steps of the latest walk, and what it told. */
  int steps;
  StringBuilder told;
  private List<Read> readings;
  String result = "";

  int run(int fuel) {
    int left = fuel;
    result = "";
    while (true) {
      int answer = walkAll();
      if (answer == 0) {
        result = told.toString();
      }
      if (answer != MEET) {
        return answer;
      }
      if (left == 0) {
        return 1;
      }
      int met = meet(last.node, last.other.node);
      if (met != 0) {
        return met;
      }
      left--;
    }
  }

  private int walkAll() {
    steps = 0;
    told = new StringBuilder();
    readings = new ArrayList<>();
    try {
      walk(root.ports[0], new ArrayList<>());
    } catch (Stop stop) {
      return stop.answer;
    }
    return 0;
  }

  private static Level level(List<Level> context, int n) {
    return n < context.size() ? context.get(n) : BOX;
  }

  private static List<Level> fill(List<Level> context, int n) {
    List<Level> filled = new ArrayList<>(context);
    while (filled.size() <= n) {
      filled.add(BOX);
    }
    return filled;
  }

  private void tell(String letters) {
    if (told.length() + letters.length() > mostLetters) {
      throw new Stop(3);
    }
    told.append(letters);
  }

  /** Reads one term, which begins along the wire of a port. */
  private void walk(Port from, List<Level> outer) {
    List<Level> context = outer;
    Port out = from;
    while (true) {
      steps++;
      Port in = out.other;
      Node v = in.node;
      boolean meets = out.q == 0 && out.node.kind != ROOT && in.q == 0;
      if (steps > mostSteps) {
        throw new Stop(3);
      }
      if (meets) {
        last = out;
        throw new Stop(MEET);
      }
      if (v.kind == LAMBDA && in.q == 0) {
        tell("\\");
        readings.add(new Read(v, context));
        walk(v.ports[1], context);
        readings.remove(readings.size() - 1);
        return;
      }
      if (v.kind == LAMBDA && in.q == 2) {
        variable(v, context);
        return;
      }
      if (v.kind == APPLICATION && in.q == 1) {
        tell("(");
        walk(v.ports[0], context);
        tell(" ");
        walk(v.ports[2], context);
        tell(")");
        return;
      }
      if (!control(v)) {
        throw new Stop(4);
      }
      context = fill(context, v.index + 1);
      out = throughControl(v, in.q, context);
    }
  }

  private static Port throughControl(Node v, int q, List<Level> context) {
    int n = v.index;
    Level level = context.get(n);
    if (v.kind == CROISSANT) {
      if (q == 1) {
        context.add(n, BOX);
        return v.ports[0];
      }
      context.remove(n);
      return v.ports[1];
    }
    if (v.kind == BRACKET) {
      if (q == 1) {
        context.set(n, new Level('P', level, context.get(n + 1)));
        context.remove(n + 1);
        return v.ports[0];
      }
      if (level.form != 'P') {
        throw new Stop(4);
      }
      context.set(n, level.one);
      context.add(n + 1, level.two);
      return v.ports[1];
    }
    if (q != 0) {
      context.set(n, new Level((char) ('0' + q), level, null));
      return v.ports[0];
    }
    if (level.form != '1' && level.form != '2') {
      throw new Stop(4);
    }
    context.set(n, level.one);
    return v.ports[level.form - '0'];
  }

  private void variable(Node v, List<Level> context) {
    for (int k = readings.size() - 1; k >= 0; k--) {
      Read read = readings.get(k);
      boolean same = read.lambda == v;
      for (int n = 0; n < v.index && same; n++) {
        same = Level.same(level(context, n), level(read.context, n));
      }
      if (same) {
        tell(Integer.toString(readings.size() - 1 - k));
        return;
      }
    }
    throw new Stop(4);
  }
}
