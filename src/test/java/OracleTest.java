import java.util.ArrayList;
import java.util.Arrays;
import java.util.List;
import java.util.NoSuchElementException;

/** Random programs and texts, each answer compared with that of the oracle. */
final class OracleTest {
  private static final int PROGRAMS = 1500;
  private static final int TEXTS = 4000;
  private static long seed = 20261119L;

  public static void main(String[] args) {
    for (int count = 0; count < TEXTS; count++) {
      compareFault(randomText());
    }
    for (int count = 0; count < PROGRAMS; count++) {
      comparePrograms();
    }
    for (int count = 0; count < 60; count++) {
      wildCalls();
    }
    Due.finish();
  }

  private static int random(int bound) {
    seed = seed * 6364136223846793005L + 1442695040888963407L;
    return (int) ((seed >>> 33) % bound);
  }

  private static String randomText() {
    StringBuilder text = new StringBuilder();
    int statements = 1 + random(3);
    for (int index = 0; index < statements; index++) {
      text.append(index == 0 ? "" : ";").append(randomStatement(random(7), 8, -1));
    }
    String signs = "abcdprxy&*=+;newf0123()~!zA";
    if (random(4) != 0) {
      int place = random(text.length());
      char sign = signs.charAt(random(signs.length()));
      switch (random(3)) {
        case 0 -> text.setCharAt(place, sign);
        case 1 -> text.insert(place, sign);
        default -> text.deleteCharAt(place);
      }
    }
    return text.toString();
  }

  private static void compareFault(String text) {
    PointerAnalyzer analyzer = new PointerAnalyzer();
    Make.type(analyzer, text);
    try {
      analyzer.setBody(random(4));
    } catch (IllegalArgumentException e) {
      Due.same("a fault in " + text, analyzer.faultPosition() >= 0, true);
    }
    Due.same("faultPosition of " + text, analyzer.faultPosition(), Oracle.faultOf(text));
  }

  private static String randomStatement(int kind, int names, int callee) {
    char v = Oracle.NAMES.charAt(random(names));
    char w = Oracle.NAMES.charAt(random(names));
    return switch (kind) {
      case 0 -> v + "=&" + w;
      case 1 -> v + "=" + w;
      case 2 -> v + "=*" + w;
      case 3 -> "*" + v + "=" + w;
      case 4 -> v + "=new";
      case 5 -> v + "=" + w + "+" + random(3);
      default -> v + "=f" + (callee < 0 ? random(4) : callee) + "(" + w + ")";
    };
  }

  /** Bodies within all limits; often few names, so that much meets. */
  private static String[] randomBodies() {
    int allocations = 0;
    int calls = 0;
    int names = 3 + random(6);
    int most = 2 + random(11);
    String[] bodies = new String[4];
    for (int function = 0; function < 4; function++) {
      StringBuilder text = new StringBuilder();
      int statements = random(most + 1);
      for (int index = 0; index < statements; index++) {
        int kind = random(9) % 7;
        kind = kind == 6 && calls == 5 || kind == 4 && allocations == 8 ? 0 : kind;
        String statement = randomStatement(kind, names, -1);
        if (text.length() + 1 + statement.length() > 80) {
          break;
        }
        text.append(index == 0 ? "" : ";").append(statement);
        calls += kind == 6 ? 1 : 0;
        allocations += kind == 4 ? 1 : 0;
      }
      bodies[function] = text.toString();
    }
    return bodies;
  }

  private static void comparePrograms() {
    PointerAnalyzer analyzer = new PointerAnalyzer();
    String[] bodies = randomBodies();
    for (int function : randomOrder()) {
      Make.body(analyzer, function, "");
    }
    for (int function : randomOrder()) {
      Make.body(analyzer, function, bodies[function]);
      if (random(3) == 0) {
        analyzer.factCount();
        analyzer.run();
        analyzer.unifiedClasses();
        analyzer.roundCount();
      }
    }
    int previous = 0;
    for (int count = 0; count < 2; count++) {
      int limit = random(3);
      Due.same("limit", analyzer.setLimit(limit), previous);
      previous = limit;
      compare(analyzer, new Oracle(bodies, limit), Arrays.toString(bodies) + " by " + limit);
    }
  }

  private static int[] randomOrder() {
    int[] order = {0, 1, 2, 3};
    for (int place = 3; place > 0; place--) {
      int other = random(place + 1);
      int moved = order[place];
      order[place] = order[other];
      order[other] = moved;
    }
    return order;
  }

  private static void compare(PointerAnalyzer analyzer, Oracle oracle, String of) {
    compareNumbers(analyzer, oracle, of);
    compareContexts(analyzer, oracle, of);
    compareTargets(analyzer, oracle, of);
    compareRanks(analyzer, oracle, of);
    compareFunctions(analyzer, oracle, of);
    compareRun(analyzer, oracle, of);
    compareFigures(analyzer, oracle, of);
  }

  private static void compareNumbers(PointerAnalyzer analyzer, Oracle oracle, String of) {
    Due.same("statementCount of " + of, analyzer.statementCount(), oracle.lines.size());
    Due.same("siteCount of " + of, analyzer.siteCount(), oracle.sites);
    for (int statement = 0; statement < oracle.lines.size(); statement++) {
      Oracle.Line line = oracle.lines.get(statement);
      Due.same("kind of " + of, analyzer.kind(statement), line.kind());
      Due.same("functionOf of " + of, analyzer.functionOf(statement), line.function());
    }
  }

  private static void compareContexts(PointerAnalyzer analyzer, Oracle oracle, String of) {
    for (int function = 0; function < 4; function++) {
      List<List<Integer>> contexts = oracle.contexts(function, oracle.limit);
      Due.same("contextCount of " + of, analyzer.contextCount(function), contexts.size());
      Due.same("isReachable of " + of, analyzer.isReachable(function), !contexts.isEmpty());
      for (int context = 0; context < contexts.size(); context++) {
        List<Integer> found = new ArrayList<>();
        for (int position = 0; position < analyzer.contextLength(function, context); position++) {
          found.add(analyzer.contextCall(function, context, position));
        }
        Due.equal("context " + context + " of " + function + " of " + of, found,
            contexts.get(context));
        for (int local = 4 + 4 * function; local < 8 + 4 * function; local++) {
          Due.same("pointsToIn(" + local + ", " + context + ") of " + of,
              analyzer.pointsToIn(local, context), oracle.pointsToIn(local, contexts.get(context)));
        }
      }
    }
  }

  private static void compareTargets(PointerAnalyzer analyzer, Oracle oracle, String of) {
    Due.same("factCount of " + of, analyzer.factCount(), oracle.facts().size());
    Due.same("escapingSites of " + of, analyzer.escapingSites(), oracle.escapingSites());
    Due.same("unifiedClasses of " + of, analyzer.unifiedClasses(), oracle.unifiedClasses());
    int[] cycles = oracle.cycles();
    for (int variable = 0; variable < 20; variable++) {
      String at = "(" + variable + ") of " + of;
      int other = random(20);
      Due.same("pointsTo" + at, analyzer.pointsTo(variable), oracle.pointsTo(variable));
      Due.same("reach" + at, analyzer.reach(variable), oracle.reach(variable));
      Due.same("unifiedTargets" + at, analyzer.unifiedTargets(variable),
          oracle.unifiedTargets(variable));
      Due.same("cycleOf" + at, analyzer.cycleOf(variable), cycles[variable]);
      Due.same("areUnified with " + other + at, analyzer.areUnified(variable, other),
          oracle.areUnified(variable, other));
      Due.same("mayAlias with " + other + at, analyzer.mayAlias(variable, other),
          (oracle.pointsTo(variable) & oracle.pointsTo(other)) != 0);
    }
    for (int variable = 0; variable < 4; variable++) {
      Due.same("pointsToIn of a global of " + of, analyzer.pointsToIn(variable, 0),
          oracle.pointsTo(variable));
    }
    for (int site = 0; site < oracle.sites; site++) {
      for (int field = 0; field < 3; field++) {
        Due.same("fieldPointsTo(" + site + ", " + field + ") of " + of,
            analyzer.fieldPointsTo(site, field), oracle.pointsTo(Make.field(site, field)));
      }
    }
  }

  private static void compareRanks(PointerAnalyzer analyzer, Oracle oracle, String of) {
    oracle.rankFacts();
    Due.same("roundCount of " + of, analyzer.roundCount(), oracle.rounds);
    for (int variable = 0; variable < 20; variable++) {
      for (int target = 0; target < 20 + 3 * oracle.sites; target++) {
        int[] due = oracle.ranks.get(variable + " " + target);
        String at = "(" + variable + ", " + target + ") of " + of;
        int rank = 0;
        int reason = 0;
        try {
          rank = analyzer.rank(variable, target);
          reason = analyzer.reason(variable, target);
        } catch (NoSuchElementException e) {
          rank = -1;
        }
        Due.same("rank" + at, rank, due == null ? -1 : due[0]);
        Due.same("reason" + at, reason, due == null ? 0 : due[1]);
      }
    }
  }

  private static void compareFunctions(PointerAnalyzer analyzer, Oracle oracle, String of) {
    for (int function = 0; function < 4; function++) {
      Due.same("modifies of " + of, analyzer.modifies(function), oracle.modifies(function));
      Due.same("isRecursive of " + of, analyzer.isRecursive(function),
          oracle.isRecursive(function));
    }
  }

  private static void compareRun(PointerAnalyzer analyzer, Oracle oracle, String of) {
    oracle.run();
    Due.same("run of " + of, analyzer.run(), oracle.executed);
    Due.same("faults of " + of, analyzer.faults(), oracle.faults);
    Due.same("objects of " + of, analyzer.objects(), oracle.objects);
    for (int variable = 0; variable < 20; variable++) {
      Due.same("observed(" + variable + ") of " + of, analyzer.observed(variable),
          oracle.observed[variable]);
      Due.same("observed is within pointsTo of " + of,
          oracle.observed[variable] & ~oracle.pointsTo(variable), 0);
    }
    for (int site = 0; site < oracle.sites; site++) {
      for (int field = 0; field < 3; field++) {
        Due.same("fieldObserved(" + site + ", " + field + ") of " + of,
            analyzer.fieldObserved(site, field), oracle.observed[Make.field(site, field)]);
      }
    }
  }

  private static void compareFigures(PointerAnalyzer analyzer, Oracle oracle, String of) {
    int included = 0;
    int unified = 0;
    int pointing = 0;
    for (int variable = 0; variable < 20; variable++) {
      included += Long.bitCount(oracle.pointsTo(variable));
      unified += Long.bitCount(oracle.unifiedTargets(variable));
      pointing += oracle.pointsTo(variable) != 0 ? 1 : 0;
    }
    if (unified == 0) {
      Due.thrown("precision of " + of, ArithmeticException.class, analyzer::precision);
    } else {
      Due.exact("precision of " + of, analyzer.precision(), (double) included / unified);
    }
    if (pointing == 0) {
      Due.thrown("averageTargets of " + of, ArithmeticException.class, analyzer::averageTargets);
    } else {
      Due.exact("averageTargets of " + of, analyzer.averageTargets(), (float) included / pointing);
    }
  }

  /** Any call with any arguments: only exceptions of the document, each of the very class. */
  private static void wildCalls() {
    PointerAnalyzer analyzer = new PointerAnalyzer();
    for (int count = 0; count < 512; count++) {
      int call = random(48);
      if (call >= 36) {
        call = random(3) == 0 ? 1 : 0;
      }
      try {
        wildCall(analyzer, call, wildNumber(), wildNumber(), wildNumber());
      } catch (IndexOutOfBoundsException e) {
        Due.equal("call " + call, e.getClass(), IndexOutOfBoundsException.class);
      } catch (RuntimeException e) {
        boolean told = e.getClass() == IllegalArgumentException.class && call <= 3
            || e.getClass() == IllegalStateException.class && (call <= 1 || call == 35)
            || e.getClass() == NoSuchElementException.class && (call == 19 || call == 20)
            || e.getClass() == ArithmeticException.class && (call == 32 || call == 33);
        Due.same("call " + call + " threw " + e, told, true);
      }
    }
  }

  private static int wildNumber() {
    int[] edges = {-1, 4, 8, 19, 20, 44, 48, 64, Integer.MIN_VALUE, Integer.MAX_VALUE};
    return random(4) == 0 ? edges[random(edges.length)] : random(5);
  }

  private static void wildCall(PointerAnalyzer analyzer, int call, int one, int two, int three) {
    switch (call) {
      case 0 -> wildText(analyzer);
      case 1 -> analyzer.setBody(one);
      case 2 -> analyzer.appendCharacter(one);
      case 3 -> analyzer.setLimit(one);
      case 4 -> analyzer.faultPosition();
      case 5 -> analyzer.statementCount();
      case 6 -> analyzer.kind(one);
      case 7 -> analyzer.functionOf(one);
      case 8 -> analyzer.siteCount();
      case 9 -> analyzer.contextCount(one);
      case 10 -> analyzer.contextLength(one, two);
      case 11 -> analyzer.contextCall(one, two, three);
      case 12 -> analyzer.pointsTo(one);
      case 13 -> analyzer.pointsToIn(one, two);
      case 14 -> analyzer.fieldPointsTo(one, two);
      case 15 -> analyzer.factCount();
      case 16 -> analyzer.mayAlias(one, two);
      case 17 -> analyzer.reach(one);
      case 18 -> analyzer.escapingSites();
      case 19 -> analyzer.rank(one, two);
      case 20 -> analyzer.reason(one, two);
      case 21 -> analyzer.roundCount();
      case 22 -> analyzer.unifiedTargets(one);
      case 23 -> analyzer.areUnified(one, two);
      case 24 -> analyzer.unifiedClasses();
      case 25 -> analyzer.modifies(one);
      case 26 -> analyzer.isReachable(one);
      case 27 -> analyzer.isRecursive(one);
      case 28 -> analyzer.cycleOf(one);
      case 29 -> analyzer.run();
      case 30 -> analyzer.observed(one);
      case 31 -> analyzer.fieldObserved(one, two);
      case 32 -> analyzer.precision();
      case 33 -> analyzer.averageTargets();
      case 34 -> analyzer.save();
      default -> analyzer.restore();
    }
  }

  private static void wildText(PointerAnalyzer analyzer) {
    String text = random(8) == 0 ? randomText() : randomStatement(random(7), 8, -1);
    for (int index = 0; index < text.length(); index++) {
      analyzer.appendCharacter(text.charAt(index));
    }
    if (random(3) != 0) {
      analyzer.setBody(random(4));
    } else {
      analyzer.appendCharacter(';');
    }
  }
}
