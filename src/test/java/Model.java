import java.util.ArrayList;
import java.util.List;

/**
 * The state of an analyzer, and what each call does to it, in the plainest words; what the bodies
 * mean is asked of an oracle. An answer is a text: the value, or the exception's name.
 */
final class Model {
  private static final String INDEX = "throws IndexOutOfBoundsException";
  private static final String ARGUMENT = "throws IllegalArgumentException";
  private static final String STATE = "throws IllegalStateException";
  private static final String ELEMENT = "throws NoSuchElementException";
  private static final String QUOTIENT = "throws ArithmeticException";

  private String text = "";
  private int fault = -1;
  private String[] bodies = {"", "", "", ""};
  private int limit = 0;
  private String[] savedBodies = null;
  private int savedLimit = 0;
  /** The oracle that made the latest run, if it is still known. */
  private Oracle observing = null;
  private Oracle oracle = null;
  private Oracle ranking = null;

  private Oracle oracle() {
    if (oracle == null) {
      oracle = new Oracle(bodies, limit);
    }
    return oracle;
  }

  private Oracle ranking() {
    if (ranking == null) {
      ranking = new Oracle(bodies, 0);
      ranking.rankFacts();
    }
    return ranking;
  }

  private void changeBodies(String[] changed) {
    bodies = changed;
    oracle = null;
    ranking = null;
    observing = null;
  }

  String appendCharacter(int character) {
    if (character < 33 || character > 126) {
      return ARGUMENT;
    }
    if (text.length() == 80) {
      return STATE;
    }
    text += (char) character;
    return "" + text.length();
  }

  String setBody(int function) {
    if (outside(function, 4)) {
      return INDEX;
    }
    String read = text;
    text = "";
    fault = Oracle.faultOf(read);
    if (fault >= 0) {
      return ARGUMENT;
    }
    String[] changed = bodies.clone();
    changed[function] = read;
    Oracle next = new Oracle(changed, limit);
    List<Oracle.Line> own = new ArrayList<>(next.lines);
    own.removeIf(line -> line.function() != function);
    long calls = next.lines.stream().filter(line -> line.kind() == 6).count();
    if (own.size() > 12 || next.sites > 8 || calls > 5) {
      return STATE;
    }
    changeBodies(changed);
    return "" + own.size();
  }

  String setLimit(int next) {
    if (outside(next, 3)) {
      return ARGUMENT;
    }
    int previous = limit;
    limit = next;
    oracle = null;
    return "" + previous;
  }

  String run() {
    observing = new Oracle(bodies, limit);
    observing.run();
    return "" + observing.executed;
  }

  String save() {
    savedBodies = bodies;
    savedLimit = limit;
    return "";
  }

  String restore() {
    if (savedBodies == null) {
      return STATE;
    }
    limit = savedLimit;
    changeBodies(savedBodies);
    return "";
  }

  // What the state answers

  private static boolean outside(int index, int size) {
    return index < 0 || index >= size;
  }

  private boolean noField(int site, int field) {
    return outside(site, oracle().sites) || outside(field, 3);
  }

  String numbers(int which) {
    int[] answers = {fault, oracle().lines.size(), oracle().sites, oracle().facts().size(),
        oracle().escapingSites(), ranking().rounds, oracle().unifiedClasses(),
        observing == null ? 0 : observing.faults, observing == null ? 0 : observing.objects};
    return "" + answers[which];
  }

  String ofStatement(int which, int statement) {
    if (outside(statement, oracle().lines.size())) {
      return INDEX;
    }
    Oracle.Line line = oracle().lines.get(statement);
    return "" + (which == 0 ? line.kind() : line.function());
  }

  String ofFunction(int which, int function) {
    if (outside(function, 4)) {
      return INDEX;
    }
    int contexts = oracle().contexts(function, limit).size();
    return switch (which) {
      case 0 -> "" + contexts;
      case 1 -> "" + oracle().modifies(function);
      case 2 -> "" + (contexts > 0);
      default -> "" + oracle().isRecursive(function);
    };
  }

  String contextLength(int function, int context) {
    if (outside(function, 4) || outside(context, oracle().contexts(function, limit).size())) {
      return INDEX;
    }
    return "" + oracle().contexts(function, limit).get(context).size();
  }

  String contextCall(int function, int context, int position) {
    String length = contextLength(function, context);
    if (length.equals(INDEX) || outside(position, Integer.parseInt(length))) {
      return INDEX;
    }
    return "" + oracle().contexts(function, limit).get(context).get(position);
  }

  String ofVariable(int which, int variable) {
    if (outside(variable, 20)) {
      return INDEX;
    }
    return switch (which) {
      case 0 -> "" + oracle().pointsTo(variable);
      case 1 -> "" + oracle().reach(variable);
      case 2 -> "" + oracle().unifiedTargets(variable);
      case 3 -> "" + oracle().cycles()[variable];
      default -> "" + (observing == null ? 0 : observing.observed[variable]);
    };
  }

  String pointsToIn(int variable, int context) {
    if (outside(variable, 20)) {
      return INDEX;
    }
    if (variable < 4) {
      return context == 0 ? "" + oracle().pointsTo(variable) : INDEX;
    }
    List<List<Integer>> contexts = oracle().contexts(variable / 4 - 1, limit);
    return outside(context, contexts.size()) ? INDEX
        : "" + oracle().pointsToIn(variable, contexts.get(context));
  }

  String ofField(int which, int site, int field) {
    if (noField(site, field)) {
      return INDEX;
    }
    int code = Make.field(site, field);
    return "" + (which == 0 ? oracle().pointsTo(code)
        : observing == null ? 0 : observing.observed[code]);
  }

  String ofTwo(int which, int first, int second) {
    if (outside(first, 20) || outside(second, 20)) {
      return INDEX;
    }
    return "" + (which == 0 ? (oracle().pointsTo(first) & oracle().pointsTo(second)) != 0
        : oracle().areUnified(first, second));
  }

  String ofFact(int which, int variable, int target) {
    if (outside(variable, 20) || outside(target, 20 + 3 * oracle().sites)) {
      return INDEX;
    }
    int[] due = ranking().ranks.get(variable + " " + target);
    return due == null ? ELEMENT : "" + due[which];
  }

  String precision() {
    int included = 0;
    int unified = 0;
    for (int variable = 0; variable < 20; variable++) {
      included += Long.bitCount(oracle().pointsTo(variable));
      unified += Long.bitCount(oracle().unifiedTargets(variable));
    }
    return unified == 0 ? QUOTIENT : "" + (double) included / (double) unified;
  }

  String averageTargets() {
    int targets = 0;
    int pointing = 0;
    for (int variable = 0; variable < 20; variable++) {
      targets += Long.bitCount(oracle().pointsTo(variable));
      pointing += oracle().pointsTo(variable) != 0 ? 1 : 0;
    }
    return pointing == 0 ? QUOTIENT : "" + (float) targets / (float) pointing;
  }
}
