/** Random sequences of 512 calls with any arguments, each answer compared with that of a model. */
final class SequenceTest {
  private static final int SEQUENCES = 400;
  private static final int CALLS = 512;
  private static final int[] EDGES = {-1, 3, 4, 8, 12, 19, 20, 23, 43, 44, 48, 64,
      Integer.MIN_VALUE, Integer.MAX_VALUE};
  private static final String[] PARTS = {"a=&b", "b=&c", "x=&y", "a=b", "p=r", "x=*a", "*a=x",
      "*x=p", "a=new", "x=new", "y=x+1", "r=y+2", "b=a+0", "r=p", "r=&x", "c=f1(a)", "x=f2(x)",
      "d=f3(d)", "a=f0(b)", "r=f1(p)", "y=d", "d=*y", "a=b+3", "a=", "e", "c=new;d=c+2;*d=c",
      "a=b;a=b;a=b;a=b;a=b;a=b;a=b", "a=new;a=new;a=new;a=new;a=new", "a=f1(a);b=f1(b);c=f2(c)"};

  interface Call {
    Object make();
  }

  private static long seed = 20261120L;
  private final PointerAnalyzer analyzer = new PointerAnalyzer();
  private final Model model = new Model();
  private final StringBuilder calls = new StringBuilder();
  private int made = 0;

  private SequenceTest() {
  }

  public static void main(String[] args) {
    for (int count = 0; count < SEQUENCES; count++) {
      new SequenceTest().play();
    }
    Due.finish();
  }

  private static int random(int bound) {
    seed = seed * 6364136223846793005L + 1442695040888963407L;
    return (int) ((seed >>> 33) % bound);
  }

  private static int number(int bound) {
    return random(12) == 0 ? EDGES[random(EDGES.length)] : random(bound);
  }

  private void play() {
    while (made < CALLS) {
      switch (made < 100 ? 0 : random(32)) {
        case 0 -> text();
        case 1, 2 -> change();
        case 3, 4, 5 -> ask();
        case 6, 7, 8, 9, 10, 11 -> askOfStatements();
        case 12, 13, 14, 15 -> askOfSites();
        case 16, 17, 18, 19, 20, 21 -> askOfContexts();
        case 22, 23, 24, 25 -> askOfFacts();
        default -> askOfVariables();
      }
    }
  }

  /** The due answer is told first, as both are changed by the call. */
  private void same(String call, String due, Call answer) {
    if (made == CALLS) {
      return;
    }
    made++;
    calls.append(call).append("; ");
    String told;
    try {
      told = "" + answer.make();
    } catch (RuntimeException e) {
      told = "throws " + e.getClass().getSimpleName();
    }
    Due.equal(call + " behind " + calls, told, due);
  }

  private void text() {
    int parts = 1 + random(random(4) == 0 ? 12 : 5);
    for (int part = 0; part < parts; part++) {
      String typed = (part == 0 ? "" : ";") + PARTS[random(PARTS.length)];
      for (int index = 0; index < typed.length() && made < CALLS; index++) {
        append(typed.charAt(index));
      }
    }
    if (random(5) != 0) {
      // Function 0 more often, as without it nothing is reachable.
      setBody(random(2) == 0 ? 0 : number(4));
    }
  }

  private void append(int character) {
    if (made < CALLS) {
      same("appendCharacter(" + character + ")", model.appendCharacter(character),
          () -> analyzer.appendCharacter(character));
    }
  }

  private void setBody(int function) {
    if (made < CALLS) {
      same("setBody(" + function + ")", model.setBody(function), () -> analyzer.setBody(function));
    }
  }

  private void change() {
    int next = number(3);
    switch (random(8)) {
      case 0 -> same("save()", model.save(), () -> {
        analyzer.save();
        return "";
      });
      case 1 -> same("restore()", model.restore(), () -> {
        analyzer.restore();
        return "";
      });
      case 2, 3 -> same("run()", model.run(), analyzer::run);
      case 4 -> append(random(2) == 0 ? 32 + random(96) : number(40));
      case 5 -> setBody(number(4));
      default -> same("setLimit(" + next + ")", model.setLimit(next),
          () -> analyzer.setLimit(next));
    }
  }

  private void ask() {
    int which = random(11);
    switch (which) {
      case 0 -> same("faultPosition()", model.numbers(0), analyzer::faultPosition);
      case 1 -> same("statementCount()", model.numbers(1), analyzer::statementCount);
      case 2 -> same("siteCount()", model.numbers(2), analyzer::siteCount);
      case 3 -> same("factCount()", model.numbers(3), analyzer::factCount);
      case 4 -> same("escapingSites()", model.numbers(4), analyzer::escapingSites);
      case 5 -> same("roundCount()", model.numbers(5), analyzer::roundCount);
      case 6 -> same("unifiedClasses()", model.numbers(6), analyzer::unifiedClasses);
      case 7 -> same("faults()", model.numbers(7), analyzer::faults);
      case 8 -> same("objects()", model.numbers(8), analyzer::objects);
      case 9 -> same("precision()", model.precision(), analyzer::precision);
      default -> same("averageTargets()", model.averageTargets(), analyzer::averageTargets);
    }
  }

  private void askOfVariables() {
    int one = number(20);
    int other = number(20);
    String of = "(" + one + ")";
    switch (random(7)) {
      case 0 -> same("pointsTo" + of, model.ofVariable(0, one), () -> analyzer.pointsTo(one));
      case 1 -> same("reach" + of, model.ofVariable(1, one), () -> analyzer.reach(one));
      case 2 -> same("unifiedTargets" + of, model.ofVariable(2, one),
          () -> analyzer.unifiedTargets(one));
      case 3 -> same("cycleOf" + of, model.ofVariable(3, one), () -> analyzer.cycleOf(one));
      case 4 -> same("observed" + of, model.ofVariable(4, one), () -> analyzer.observed(one));
      case 5 -> same("mayAlias" + of + other, model.ofTwo(0, one, other),
          () -> analyzer.mayAlias(one, other));
      default -> same("areUnified" + of + other, model.ofTwo(1, one, other),
          () -> analyzer.areUnified(one, other));
    }
  }

  private void askOfStatements() {
    int statement = number(14);
    int function = number(4);
    String of = "(" + function + ")";
    switch (random(6)) {
      case 0 -> same("kind(" + statement + ")", model.ofStatement(0, statement),
          () -> analyzer.kind(statement));
      case 1 -> same("functionOf(" + statement + ")", model.ofStatement(1, statement),
          () -> analyzer.functionOf(statement));
      case 2 -> same("contextCount" + of, model.ofFunction(0, function),
          () -> analyzer.contextCount(function));
      case 3 -> same("modifies" + of, model.ofFunction(1, function),
          () -> analyzer.modifies(function));
      case 4 -> same("isReachable" + of, model.ofFunction(2, function),
          () -> analyzer.isReachable(function));
      default -> same("isRecursive" + of, model.ofFunction(3, function),
          () -> analyzer.isRecursive(function));
    }
  }

  private void askOfSites() {
    int site = number(3);
    int field = number(3);
    String of = "(" + site + ", " + field + ")";
    if (random(2) == 0) {
      same("fieldPointsTo" + of, model.ofField(0, site, field),
          () -> analyzer.fieldPointsTo(site, field));
    } else {
      same("fieldObserved" + of, model.ofField(1, site, field),
          () -> analyzer.fieldObserved(site, field));
    }
  }

  private void askOfContexts() {
    int function = number(4);
    int context = number(2);
    int position = number(2);
    int variable = number(20);
    String of = "(" + function + ", " + context + ")";
    switch (random(3)) {
      case 0 -> same("contextLength" + of, model.contextLength(function, context),
          () -> analyzer.contextLength(function, context));
      case 1 -> same("contextCall" + of + position,
          model.contextCall(function, context, position),
          () -> analyzer.contextCall(function, context, position));
      default -> same("pointsToIn(" + variable + ", " + context + ")",
          model.pointsToIn(variable, context), () -> analyzer.pointsToIn(variable, context));
    }
  }

  private void askOfFacts() {
    int variable = number(20);
    int target = random(3) == 0 ? number(44) : number(4);
    String of = "(" + variable + ", " + target + ")";
    if (random(2) == 0) {
      same("rank" + of, model.ofFact(0, variable, target), () -> analyzer.rank(variable, target));
    } else {
      same("reason" + of, model.ofFact(1, variable, target),
          () -> analyzer.reason(variable, target));
    }
  }
}
