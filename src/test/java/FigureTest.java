/** Promises 35 to 38: precision, averages, and what is saved. */
final class FigureTest {
  private static final Class<ArithmeticException> ARITHMETIC = ArithmeticException.class;

  public static void main(String[] args) {
    precision();
    averageTargets();
    nothingSaved();
    saved();
    savedInPlaceOfBefore();
    neitherTextNorFault();
    Due.finish();
  }

  private static void precision() {
    Due.exact("as precise", Make.with("a=&b").precision(), 1.0);
    Due.exact("a third", Make.with("a=new").precision(), 1.0 / 3.0);
    Due.exact("one of two", Make.with("a=&b;a=c").precision(), 0.5);
    Due.exact("two of six", Make.with("a=new;b=a").precision(), 2.0 / 6.0);
    Due.exact("none", Make.with("", "a=&b").precision(), 0.0);
    PointerAnalyzer contexts = Make.with("x=&a;y=&b;c=f1(x);d=f1(y)", "r=p");
    Due.exact("limit 0", contexts.precision(), 10.0 / 12.0);
    contexts.setLimit(1);
    Due.exact("limit 1", contexts.precision(), 8.0 / 12.0);
    Due.thrown("nothing", ARITHMETIC, () -> new PointerAnalyzer().precision());
    PointerAnalyzer copies = Make.with("a=b;*c=d");
    Due.thrown("no targets", ARITHMETIC, copies::precision);
  }

  private static void averageTargets() {
    Due.exact("one", Make.with("a=&b").averageTargets(), 1.0f);
    Due.exact("three by two", Make.with("a=&b;a=&c;b=&d").averageTargets(), 1.5f);
    Due.exact("four by three", Make.with("a=&b;b=&d;c=a;c=b").averageTargets(), 4.0f / 3.0f);
    Due.exact("fields do not count", Make.with("x=new;*x=x;y=x+1;*x=y").averageTargets(), 1.0f);
    PointerAnalyzer contexts = Make.with(1, "x=&a;y=&b;c=f1(x);d=f1(y)", "r=p");
    Due.exact("by variables, not by cells", contexts.averageTargets(), 8.0f / 6.0f);
    Due.thrown("nothing", ARITHMETIC, () -> new PointerAnalyzer().averageTargets());
    PointerAnalyzer unreachable = Make.with("", "a=&b");
    Due.thrown("unreachable", ARITHMETIC, unreachable::averageTargets);
  }

  private static void nothingSaved() {
    PointerAnalyzer analyzer = Make.with("a=&b");
    analyzer.run();
    Due.thrown("restore", IllegalStateException.class, analyzer::restore);
    Due.same("observed", analyzer.observed(Make.A), 2);
    Due.same("statements", analyzer.statementCount(), 1);
  }

  private static void saved() {
    PointerAnalyzer analyzer = Make.with(1, "a=&b;c=new", "x=new", "x=f1(a)", "b=a");
    analyzer.save();
    for (int function = 0; function < 4; function++) {
      Make.body(analyzer, function, "d=&d");
    }
    analyzer.setLimit(2);
    for (int time = 0; time < 2; time++) {
      analyzer.restore();
      Due.same("statements", analyzer.statementCount(), 5);
      Due.same("sites", analyzer.siteCount(), 2);
      Due.same("limit", analyzer.setLimit(2), 1);
      Due.same("kind", analyzer.kind(3), 6);
      Due.same("functionOf", analyzer.functionOf(4), 3);
      Due.same("pointsTo", analyzer.pointsTo(Make.A), 2);
      Make.body(analyzer, 0, "");
    }
  }

  private static void savedInPlaceOfBefore() {
    PointerAnalyzer analyzer = new PointerAnalyzer();
    analyzer.save();
    Make.body(analyzer, 0, "a=&b");
    analyzer.setLimit(2);
    analyzer.save();
    Make.body(analyzer, 0, "");
    analyzer.setLimit(1);
    analyzer.restore();
    Due.same("the later one", analyzer.statementCount(), 1);
    Due.same("its limit", analyzer.setLimit(0), 2);
    PointerAnalyzer empty = new PointerAnalyzer();
    empty.save();
    Make.body(empty, 2, "a=new");
    empty.restore();
    Due.same("the empty one", empty.statementCount(), 0);
    Due.same("without sites", empty.siteCount(), 0);
  }

  private static void neitherTextNorFault() {
    PointerAnalyzer analyzer = new PointerAnalyzer();
    Make.type(analyzer, "a=");
    analyzer.save();
    Make.type(analyzer, "b");
    analyzer.restore();
    Due.same("the text is as it was", analyzer.appendCharacter(';'), 4);
    Due.thrown("fault", IllegalArgumentException.class, () -> analyzer.setBody(0));
    analyzer.restore();
    Due.same("the fault is as it was", analyzer.faultPosition(), 4);
    Due.same("the text is empty", analyzer.appendCharacter('a'), 1);
  }
}
