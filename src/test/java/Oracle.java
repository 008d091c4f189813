import java.util.ArrayList;
import java.util.HashMap;
import java.util.HashSet;
import java.util.List;
import java.util.Map;
import java.util.Set;
import java.util.TreeSet;
import java.util.regex.Matcher;
import java.util.regex.Pattern;

/** The document once more, in the slowest and plainest words: cells and terms are texts. */
final class Oracle {
  static final String NAMES = "abcdprxy";
  private static final String V = "[abcdprxy]";
  private static final String STATEMENT =
      "(" + V + "=(&" + V + "|\\*" + V + "|new|f[0-3]\\(" + V + "\\)|" + V + "(\\+[0-2])?)|\\*"
          + V + "=" + V + ")";
  private static final Pattern BODY = Pattern.compile("(" + STATEMENT + "(;" + STATEMENT + ")*)?");

  record Line(int function, int kind, int left, int right, int number, int site) {
  }

  record Fact(String from, String to) {
  }

  final List<Line> lines = new ArrayList<>();
  final int limit;
  int sites = 0;

  Oracle(String[] bodies, int limit) {
    this.limit = limit;
    for (int function = 0; function < 4; function++) {
      for (String text : bodies[function].split(";")) {
        if (!text.isEmpty()) {
          lines.add(line(function, text));
        }
      }
    }
  }

  static int faultOf(String text) {
    if (BODY.matcher(text).matches()) {
      return -1;
    }
    for (int length = 1; length <= text.length(); length++) {
      Matcher matcher = BODY.matcher(text.substring(0, length));
      if (!matcher.matches() && !matcher.hitEnd()) {
        return length - 1;
      }
    }
    return text.length();
  }

  static int variable(int function, char name) {
    int place = NAMES.indexOf(name);
    return place < 4 ? place : 4 * function + place;
  }

  private Line line(int function, String text) {
    if (text.charAt(0) == '*') {
      return new Line(function, 3, variable(function, text.charAt(1)),
          variable(function, text.charAt(3)), 0, -1);
    }
    int left = variable(function, text.charAt(0));
    char sign = text.charAt(2);
    if (sign == '&' || sign == '*') {
      return new Line(function, sign == '&' ? 0 : 2, left, variable(function, text.charAt(3)), 0, -1);
    }
    if (sign == 'n') {
      sites++;
      return new Line(function, 4, left, -1, 0, sites - 1);
    }
    if (sign == 'f') {
      return new Line(function, 6, left, variable(function, text.charAt(5)), text.charAt(3) - '0', -1);
    }
    int right = variable(function, sign);
    return text.length() == 3
        ? new Line(function, 1, left, right, 0, -1)
        : new Line(function, 5, left, right, text.charAt(4) - '0', -1);
  }

  // Contexts

  /** The contexts of a function in their order, each as the list of its calls. */
  List<List<Integer>> contexts(int function, int limit) {
    List<Set<List<Integer>>> found = new ArrayList<>();
    for (int each = 0; each < 4; each++) {
      found.add(new HashSet<>());
    }
    found.get(0).add(List.of());
    boolean grew = true;
    while (grew) {
      grew = false;
      for (int number = 0; number < lines.size(); number++) {
        Line line = lines.get(number);
        if (line.kind == 6) {
          for (List<Integer> context : new ArrayList<>(found.get(line.function))) {
            grew |= found.get(line.number).add(followed(context, number, limit));
          }
        }
      }
    }
    List<List<Integer>> ordered = new ArrayList<>(found.get(function));
    ordered.sort((one, other) -> {
      if (one.size() != other.size()) {
        return one.size() - other.size();
      }
      for (int index = 0; index < one.size(); index++) {
        if (!one.get(index).equals(other.get(index))) {
          return one.get(index) - other.get(index);
        }
      }
      return 0;
    });
    return ordered;
  }

  private static List<Integer> followed(List<Integer> context, int call, int limit) {
    List<Integer> longer = new ArrayList<>(context);
    longer.add(call);
    return new ArrayList<>(longer.subList(Math.max(0, longer.size() - limit), longer.size()));
  }

  // Inclusion

  static String cell(int variable, List<Integer> context) {
    return variable < 4 ? "v" + variable : "v" + variable + "@" + context;
  }

  static int code(String cell) {
    if (cell.charAt(0) == 's') {
      return 20 + 3 * (cell.charAt(1) - '0') + cell.charAt(3) - '0';
    }
    int end = cell.indexOf('@');
    return Integer.parseInt(cell.substring(1, end < 0 ? cell.length() : end));
  }

  /** What follows from facts by one statement in one context. */
  private Set<Fact> follow(Set<Fact> facts, int number, List<Integer> context, int limit) {
    Line line = lines.get(number);
    String v = cell(line.left, context);
    String w = cell(line.right, context);
    Set<Fact> found = new HashSet<>();
    switch (line.kind) {
      case 0 -> found.add(new Fact(v, w));
      case 1 -> pointees(facts, w).forEach(to -> found.add(new Fact(v, to)));
      case 2 -> pointees(facts, w).forEach(
          middle -> pointees(facts, middle).forEach(to -> found.add(new Fact(v, to))));
      case 3 -> pointees(facts, v).forEach(
          middle -> pointees(facts, w).forEach(to -> found.add(new Fact(middle, to))));
      case 4 -> found.add(new Fact(v, "s" + line.site + ".0"));
      case 5 -> pointees(facts, w).forEach(to -> {
        if (line.number == 0) {
          found.add(new Fact(v, to));
        } else if (to.charAt(0) == 's' && to.charAt(3) - '0' + line.number <= 2) {
          found.add(new Fact(v, to.substring(0, 3) + (to.charAt(3) - '0' + line.number)));
        }
      });
      default -> {
        List<Integer> inside = followed(context, number, limit);
        String p = cell(4 + 4 * line.number, inside);
        String r = cell(5 + 4 * line.number, inside);
        pointees(facts, w).forEach(to -> found.add(new Fact(p, to)));
        pointees(facts, r).forEach(to -> found.add(new Fact(v, to)));
      }
    }
    return found;
  }

  private static Set<String> pointees(Set<Fact> facts, String from) {
    Set<String> found = new HashSet<>();
    for (Fact fact : facts) {
      if (fact.from.equals(from)) {
        found.add(fact.to);
      }
    }
    return found;
  }

  private Set<Fact> cachedFacts;

  Set<Fact> facts() {
    if (cachedFacts == null) {
      cachedFacts = new HashSet<>();
      boolean grew = true;
      while (grew) {
        grew = false;
        for (int number = lines.size() - 1; number >= 0; number--) {
          for (List<Integer> context : contexts(lines.get(number).function, limit)) {
            grew |= cachedFacts.addAll(follow(cachedFacts, number, context, limit));
          }
        }
      }
    }
    return cachedFacts;
  }

  long pointsTo(int code) {
    long set = 0;
    for (Fact fact : facts()) {
      if (code(fact.from) == code) {
        set |= 1L << code(fact.to);
      }
    }
    return set;
  }

  long pointsToIn(int variable, List<Integer> context) {
    long set = 0;
    for (Fact fact : facts()) {
      if (fact.from.equals(cell(variable, context))) {
        set |= 1L << code(fact.to);
      }
    }
    return set;
  }

  long reach(int variable) {
    long[] targets = new long[44];
    for (int code = 0; code < 44; code++) {
      targets[code] = pointsTo(code);
    }
    long reached = targets[variable];
    for (int step = 0; step < 44; step++) {
      for (int code = 0; code < 44; code++) {
        if ((reached >> code & 1) != 0) {
          reached |= targets[code];
        }
      }
    }
    return reached;
  }

  int escapingSites() {
    long reached = reach(0) | reach(1) | reach(2) | reach(3);
    int found = 0;
    for (int site = 0; site < sites; site++) {
      for (int field = 0; field < 3; field++) {
        if ((reached >> 20 + 3 * site + field & 1) != 0) {
          found |= 1 << site;
        }
      }
    }
    return found;
  }

  // Ranks

  /** For each fact "variable target" its rank and reason. */
  final Map<String, int[]> ranks = new HashMap<>();
  int rounds = 0;

  void rankFacts() {
    Set<Fact> known = new HashSet<>();
    for (int round = 1; ; round++) {
      Set<Fact> next = new HashSet<>(known);
      for (int number = 0; number < lines.size(); number++) {
        for (List<Integer> context : contexts(lines.get(number).function, 0)) {
          for (Fact fact : follow(known, number, context, 0)) {
            if (next.add(fact)) {
              ranks.put(code(fact.from) + " " + code(fact.to), new int[] {round, number});
            }
          }
        }
      }
      if (next.size() == known.size()) {
        return;
      }
      rounds = round;
      known = next;
    }
  }

  // Unification: terms up to T(T(T(.))), joined until nothing changes

  private static final int DEEPEST = 3;
  private int[] cachedClasses;

  private static int term(int plain, int depth) {
    return depth * 28 + plain;
  }

  private int[] classes() {
    if (cachedClasses != null) {
      return cachedClasses;
    }
    int[] classes = new int[28 * (DEEPEST + 1)];
    for (int term = 0; term < classes.length; term++) {
      classes[term] = term;
    }
    for (Line line : lines) {
      int v = line.left;
      int w = line.right;
      switch (line.kind) {
        case 0 -> merge(classes, term(v, 1), w);
        case 1, 5 -> merge(classes, term(v, 1), term(w, 1));
        case 2 -> merge(classes, term(v, 1), term(w, 2));
        case 3 -> merge(classes, term(v, 2), term(w, 1));
        case 4 -> merge(classes, term(v, 1), 20 + line.site);
        default -> {
          merge(classes, term(4 + 4 * line.number, 1), term(w, 1));
          merge(classes, term(v, 1), term(5 + 4 * line.number, 1));
        }
      }
    }
    boolean changed = true;
    while (changed) {
      changed = false;
      for (int one = 0; one < 28 * DEEPEST; one++) {
        for (int other = 0; other < one; other++) {
          if (classes[one] == classes[other] && classes[one + 28] != classes[other + 28]) {
            merge(classes, one + 28, other + 28);
            changed = true;
          }
        }
      }
    }
    cachedClasses = classes;
    return classes;
  }

  private static void merge(int[] classes, int one, int other) {
    int old = classes[one];
    int kept = classes[other];
    for (int term = 0; term < classes.length; term++) {
      if (classes[term] == old) {
        classes[term] = kept;
      }
    }
  }

  boolean areUnified(int first, int second) {
    return classes()[first] == classes()[second];
  }

  long unifiedTargets(int variable) {
    int wanted = classes()[term(variable, 1)];
    long set = 0;
    for (int plain = 0; plain < 20 + sites; plain++) {
      if (classes()[plain] == wanted) {
        set |= plain < 20 ? 1L << plain : 7L << 20 + 3 * (plain - 20);
      }
    }
    return set;
  }

  int unifiedClasses() {
    Set<Integer> found = new TreeSet<>();
    for (int plain = 0; plain < 20 + sites; plain++) {
      found.add(classes()[plain]);
    }
    return found.size();
  }

  // Effects and cycles

  private boolean[][] paths(int size, boolean byCalls) {
    boolean[][] paths = new boolean[size][size];
    for (Line line : lines) {
      if (byCalls && line.kind == 6) {
        paths[line.function][line.number] = true;
      } else if (!byCalls && line.kind == 1) {
        paths[line.right][line.left] = true;
      } else if (!byCalls && line.kind == 6) {
        paths[line.right][4 + 4 * line.number] = true;
        paths[5 + 4 * line.number][line.left] = true;
      }
    }
    for (int step = 0; step < size; step++) {
      for (int from = 0; from < size; from++) {
        for (int middle = 0; middle < size; middle++) {
          for (int to = 0; to < size && paths[from][middle]; to++) {
            paths[from][to] |= paths[middle][to];
          }
        }
      }
    }
    return paths;
  }

  boolean isRecursive(int function) {
    return paths(4, true)[function][function];
  }

  long modifies(int function) {
    boolean[][] calls = paths(4, true);
    long set = 0;
    for (Line line : lines) {
      if (line.kind == 3 && (line.function == function || calls[function][line.function])) {
        set |= pointsTo(line.left);
      }
    }
    return set;
  }

  int[] cycles() {
    boolean[][] flow = paths(20, false);
    int[] cycles = new int[20];
    for (int variable = 0; variable < 20; variable++) {
      cycles[variable] = 1 << variable;
      for (int other = 0; other < 20; other++) {
        if (flow[variable][other] && flow[other][variable]) {
          cycles[variable] |= 1 << other;
        }
      }
    }
    return cycles;
  }

  // Runs: a place is a variable of an activation, or a field of an object

  private static final class Place {
    final int code;
    final Place[] fields;
    final int field;
    Place value;

    Place(int code, Place[] fields, int field) {
      this.code = code;
      this.fields = fields;
      this.field = field;
    }
  }

  final long[] observed = new long[44];
  int executed = 0;
  int faults = 0;
  int objects = 0;
  private final Place[] globals = new Place[4];

  void run() {
    for (int variable = 0; variable < 4; variable++) {
      globals[variable] = new Place(variable, null, 0);
    }
    activate(0, null, 1);
  }

  private Place activate(int function, Place argument, int open) {
    Place[] locals = new Place[4];
    for (int local = 0; local < 4; local++) {
      locals[local] = new Place(4 + 4 * function + local, null, 0);
    }
    set(locals[0], argument);
    for (Line line : lines) {
      if (line.function == function) {
        if (executed == 200) {
          return null;
        }
        executed++;
        execute(line, place(line.left, locals), place(line.right, locals), open);
      }
    }
    return locals[1].value;
  }

  private Place place(int variable, Place[] locals) {
    if (variable < 0) {
      return null;
    }
    return variable < 4 ? globals[variable] : locals[variable % 4];
  }

  private void set(Place place, Place value) {
    place.value = value;
    if (value != null) {
      observed[place.code] |= 1L << value.code;
    }
  }

  private void execute(Line line, Place v, Place w, int open) {
    switch (line.kind) {
      case 0 -> set(v, w);
      case 1 -> set(v, w.value);
      case 2 -> {
        if (w.value == null) {
          faults++;
        } else {
          set(v, w.value.value);
        }
      }
      case 3 -> {
        if (v.value == null) {
          faults++;
        } else {
          set(v.value, w.value);
        }
      }
      case 4 -> set(v, makeObject(line.site)[0]);
      case 5 -> shift(line, v, w);
      default -> {
        if (open < 6 && executed < 200) {
          Place result = activate(line.number, w.value, open + 1);
          if (executed < 200) {
            set(v, result);
          }
        }
      }
    }
  }

  private Place[] makeObject(int site) {
    objects++;
    Place[] fields = new Place[3];
    for (int field = 0; field < 3; field++) {
      fields[field] = new Place(20 + 3 * site + field, fields, field);
    }
    return fields;
  }

  private void shift(Line line, Place v, Place w) {
    if (w.value == null || line.number == 0) {
      set(v, w.value);
    } else if (w.value.fields == null || w.value.field + line.number > 2) {
      faults++;
    } else {
      set(v, w.value.fields[w.value.field + line.number]);
    }
  }
}
