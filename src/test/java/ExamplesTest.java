/** The four examples at the end of the document's description. */
final class ExamplesTest {
  public static void main(String[] args) {
    addressReachesTwoVariables();
    newObject();
    storeThroughNull();
    faultInText();
    Due.finish();
  }

  private static void addressReachesTwoVariables() {
    PointerAnalyzer analyzer = new PointerAnalyzer();
    Make.type(analyzer, "a=&b;c=a");
    Due.same("1: setBody(0)", analyzer.setBody(0), 2);
    Due.same("1: pointsTo(2)", analyzer.pointsTo(2), 2);
    Due.same("1: rank(2, 1)", analyzer.rank(2, 1), 2);
    Due.same("1: reason(2, 1)", analyzer.reason(2, 1), 1);
    Due.same("1: run()", analyzer.run(), 2);
    Due.same("1: observed(2)", analyzer.observed(2), 2);
  }

  private static void newObject() {
    PointerAnalyzer analyzer = new PointerAnalyzer();
    Make.type(analyzer, "x=new");
    Due.same("2: setBody(0)", analyzer.setBody(0), 1);
    Due.same("2: pointsTo(6)", analyzer.pointsTo(6), 1048576);
    Due.noIndex("2: fieldPointsTo(0, 3)", () -> analyzer.fieldPointsTo(0, 3));
    Due.same("2: run()", analyzer.run(), 1);
    Due.same("2: objects()", analyzer.objects(), 1);
  }

  private static void storeThroughNull() {
    PointerAnalyzer analyzer = new PointerAnalyzer();
    Make.type(analyzer, "*a=b;a=&a");
    Due.same("3: setBody(0)", analyzer.setBody(0), 2);
    Due.same("3: run()", analyzer.run(), 2);
    Due.same("3: faults()", analyzer.faults(), 1);
    Due.same("3: pointsTo(0)", analyzer.pointsTo(0), 1);
  }

  private static void faultInText() {
    PointerAnalyzer analyzer = new PointerAnalyzer();
    Make.type(analyzer, "a=b+3");
    Due.thrown("4: setBody(0)", IllegalArgumentException.class, () -> analyzer.setBody(0));
    Due.same("4: faultPosition()", analyzer.faultPosition(), 4);
  }
}
