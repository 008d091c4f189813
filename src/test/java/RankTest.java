import java.util.NoSuchElementException;

/** Promises 20 to 22: ranks, reasons and rounds. */
final class RankTest {
  public static void main(String[] args) {
    chain();
    oneRoundAtATime();
    lowestStatement();
    loadsAndStores();
    calls();
    whateverTheLimit();
    firstQuestion();
    fieldsCountAsRounds();
    roundCount();
    answersFollowChanges();
    wrongArguments();
    Due.finish();
  }

  private static void same(PointerAnalyzer analyzer, int variable, int target, int rank, int reason) {
    String fact = variable + " to " + target;
    Due.same("rank of " + fact, analyzer.rank(variable, target), rank);
    Due.same("reason of " + fact, analyzer.reason(variable, target), reason);
  }

  private static void none(PointerAnalyzer analyzer, int variable, int target) {
    Class<NoSuchElementException> due = NoSuchElementException.class;
    Due.thrown("rank", due, () -> analyzer.rank(variable, target));
    Due.thrown("reason", due, () -> analyzer.reason(variable, target));
  }

  private static void chain() {
    PointerAnalyzer analyzer = Make.with("d=c;c=b;b=a;a=&a");
    same(analyzer, Make.A, Make.A, 1, 3);
    same(analyzer, Make.B, Make.A, 2, 2);
    same(analyzer, Make.C, Make.A, 3, 1);
    same(analyzer, Make.D, Make.A, 4, 0);
    Due.same("rounds", analyzer.roundCount(), 4);
    none(analyzer, Make.A, Make.B);
  }

  private static void oneRoundAtATime() {
    PointerAnalyzer analyzer = Make.with("a=&a;b=a;c=b;d=c");
    same(analyzer, Make.D, Make.A, 4, 3);
    same(analyzer, Make.B, Make.A, 2, 1);
    Due.same("rounds", analyzer.roundCount(), 4);
  }

  private static void lowestStatement() {
    PointerAnalyzer analyzer = Make.with("b=a;b=c;a=&d;c=&d;b=a;c=&d");
    same(analyzer, Make.B, Make.D, 2, 0);
    same(analyzer, Make.C, Make.D, 1, 3);
    PointerAnalyzer later = Make.with("d=c;c=b;d=b;b=a;d=a;a=&a");
    // In round 3, statement 4 alone gives the fact; statements 0 and 2 would give it only later.
    same(later, Make.D, Make.A, 2, 4);
    same(later, Make.B, Make.A, 2, 3);
    PointerAnalyzer functions = Make.with("c=f1(a)", "b=a;a=&d", "b=a;a=&d");
    same(functions, Make.A, Make.D, 1, 2);
    same(functions, Make.B, Make.D, 2, 1);
    Make.body(functions, 0, "c=f2(a)");
    same(functions, Make.A, Make.D, 1, 4);
    same(functions, Make.B, Make.D, 2, 3);
  }

  private static void loadsAndStores() {
    PointerAnalyzer analyzer = Make.with("d=*a;*a=c;a=&b;c=&x;x=new;y=x+2;*y=x;r=*y");
    same(analyzer, Make.B, Make.x(0), 2, 1);
    same(analyzer, Make.D, Make.x(0), 3, 0);
    same(analyzer, Make.x(0), Make.field(0, 0), 1, 4);
    same(analyzer, Make.y(0), Make.field(0, 2), 2, 5);
    same(analyzer, Make.r(0), Make.field(0, 0), 4, 7);
    Due.same("rounds", analyzer.roundCount(), 4);
  }

  private static void calls() {
    PointerAnalyzer analyzer = Make.with("a=f1(b);b=&c", "r=p");
    same(analyzer, Make.p(1), Make.C, 2, 0);
    same(analyzer, Make.r(1), Make.C, 3, 2);
    same(analyzer, Make.A, Make.C, 4, 0);
  }

  private static void whateverTheLimit() {
    PointerAnalyzer analyzer = Make.with("x=&a;y=&b;c=f1(x);d=f1(y)", "r=p");
    for (int limit = 0; limit <= 2; limit++) {
      analyzer.setLimit(limit);
      same(analyzer, Make.C, Make.B, 4, 2);
      same(analyzer, Make.D, Make.A, 4, 3);
      Due.same("rounds", analyzer.roundCount(), 4);
      Due.same("by the limit", analyzer.pointsTo(Make.C),
          limit == 0 ? Make.set(Make.A, Make.B) : Make.set(Make.A));
    }
  }

  /** Each question must be answered with the limit 0 also when it is the first one. */
  private static void firstQuestion() {
    String[] bodies = {"x=&a;y=&b;c=f1(x);d=f1(y)", "r=p"};
    Due.same("rank", Make.with(1, bodies).rank(Make.C, Make.B), 4);
    Due.same("reason", Make.with(1, bodies).reason(Make.C, Make.B), 2);
    String[] longer = {"x=&a;c=f1(x);d=f1(c);c=d", "r=p"};
    Due.same("roundCount", Make.with(0, longer).roundCount(), 4);
    Due.same("roundCount", Make.with(2, longer).roundCount(), 4);
  }

  private static void fieldsCountAsRounds() {
    PointerAnalyzer analyzer = Make.with("x=new;*x=x");
    Due.same("rounds", analyzer.roundCount(), 2);
    same(analyzer, Make.x(0), Make.field(0, 0), 1, 0);
  }

  private static void roundCount() {
    Due.same("no statements", Make.with("").roundCount(), 0);
    Due.same("no facts", Make.with("a=b;*c=d;x=*y").roundCount(), 0);
    Due.same("one round", Make.with("a=&a").roundCount(), 1);
    Due.same("unreachable", Make.with("", "a=&a").roundCount(), 0);
  }

  private static void answersFollowChanges() {
    PointerAnalyzer analyzer = Make.with("a=&b;c=a");
    Due.same("rank", analyzer.rank(Make.C, Make.B), 2);
    analyzer.save();
    Make.body(analyzer, 0, "c=&b");
    same(analyzer, Make.C, Make.B, 1, 0);
    none(analyzer, Make.A, Make.B);
    analyzer.restore();
    same(analyzer, Make.C, Make.B, 2, 1);
  }

  private static void wrongArguments() {
    PointerAnalyzer analyzer = Make.with("a=new;b=new", "x=&y");
    int[] wrong = {-1, 20, Integer.MIN_VALUE, Integer.MAX_VALUE};
    for (int value : wrong) {
      Due.noIndex("rank", () -> analyzer.rank(value, 0));
      Due.noIndex("reason", () -> analyzer.reason(value, 0));
    }
    int[] noTargets = {-1, 26, 44, 64, Integer.MIN_VALUE, Integer.MAX_VALUE};
    for (int value : noTargets) {
      Due.noIndex("rank", () -> analyzer.rank(0, value));
      Due.noIndex("reason", () -> analyzer.reason(0, value));
    }
    none(analyzer, Make.A, 25);
    none(analyzer, Make.A, 19);
    none(analyzer, Make.x(1), Make.y(1));
    none(analyzer, 19, 0);
    Due.same("a field", analyzer.rank(Make.B, 23), 1);
    PointerAnalyzer empty = new PointerAnalyzer();
    Due.noIndex("no sites", () -> empty.rank(0, 20));
    none(empty, 0, 19);
  }
}
