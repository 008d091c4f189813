import java.util.ArrayList;
import java.util.List;

/** All that an analyzer answers without being changed, so that two states can be compared. */
final class Answers {
  interface Question {
    Object ask();
  }

  private final PointerAnalyzer analyzer;
  private final List<String> told = new ArrayList<>();

  private Answers(PointerAnalyzer analyzer) {
    this.analyzer = analyzer;
  }

  /** Some 170 calls, so that an object stays below its 512. */
  static List<String> of(PointerAnalyzer analyzer) {
    Answers answers = withoutFaultPosition(analyzer);
    answers.add("faultPosition", analyzer::faultPosition);
    return answers.told;
  }

  static List<String> exceptFaultPosition(PointerAnalyzer analyzer) {
    return withoutFaultPosition(analyzer).told;
  }

  private static Answers withoutFaultPosition(PointerAnalyzer analyzer) {
    Answers answers = new Answers(analyzer);
    answers.ofAll();
    answers.ofVariables();
    answers.ofFunctions();
    answers.ofStatements();
    answers.ofSites();
    return answers;
  }

  private void add(String what, Question question) {
    try {
      told.add(what + " = " + question.ask());
    } catch (RuntimeException e) {
      told.add(what + " throws " + e.getClass().getName());
    }
  }

  private void ofAll() {
    add("factCount", analyzer::factCount);
    add("escapingSites", analyzer::escapingSites);
    add("roundCount", analyzer::roundCount);
    add("unifiedClasses", analyzer::unifiedClasses);
    add("faults", analyzer::faults);
    add("objects", analyzer::objects);
    add("precision", analyzer::precision);
    add("averageTargets", analyzer::averageTargets);
    int limit = analyzer.setLimit(0);
    analyzer.setLimit(limit);
    told.add("limit = " + limit);
  }

  private void ofVariables() {
    for (int each = 0; each < 20; each++) {
      int variable = each;
      add("pointsTo " + variable, () -> analyzer.pointsTo(variable));
      add("reach " + variable, () -> analyzer.reach(variable));
      add("unifiedTargets " + variable, () -> analyzer.unifiedTargets(variable));
      add("cycleOf " + variable, () -> analyzer.cycleOf(variable));
      add("observed " + variable, () -> analyzer.observed(variable));
    }
  }

  private void ofFunctions() {
    for (int each = 0; each < 4; each++) {
      int function = each;
      add("contextCount " + function, () -> analyzer.contextCount(function));
      add("modifies " + function, () -> analyzer.modifies(function));
      add("isReachable " + function, () -> analyzer.isReachable(function));
      add("isRecursive " + function, () -> analyzer.isRecursive(function));
    }
  }

  private void ofStatements() {
    int statements = analyzer.statementCount();
    for (int each = 0; each < statements; each++) {
      int statement = each;
      add("kind " + statement, () -> analyzer.kind(statement));
      add("functionOf " + statement, () -> analyzer.functionOf(statement));
    }
    told.add("statements = " + statements);
  }

  private void ofSites() {
    int sites = analyzer.siteCount();
    for (int each = 0; each < 3 * sites; each++) {
      int site = each / 3;
      int field = each % 3;
      add("fieldPointsTo " + each, () -> analyzer.fieldPointsTo(site, field));
      add("fieldObserved " + each, () -> analyzer.fieldObserved(site, field));
    }
    told.add("sites = " + sites);
  }
}
