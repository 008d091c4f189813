/** Promises 13 to 19: what variables and fields point to, aliases, reach and escaping sites. */
final class InclusionTest {
  public static void main(String[] args) {
    eachStatement();
    offsets();
    orderOfStatementsIsFree();
    callsMixWithoutContexts();
    callsApartWithContexts();
    limitTwoTellsMore();
    localsByContext();
    pointersToLocals();
    unreachableFunctions();
    fields();
    factCount();
    mayAlias();
    reach();
    escapingSites();
    answersFollowChanges();
    firstQuestion();
    wrongArguments();
    Due.finish();
  }

  private static void eachStatement() {
    PointerAnalyzer analyzer = Make.with("a=&b;b=&c;d=*a;*a=a;x=a;y=new;p=*r;*r=p");
    Due.same("a", analyzer.pointsTo(Make.A), Make.set(Make.B));
    Due.same("b by address and store", analyzer.pointsTo(Make.B), Make.set(Make.B, Make.C));
    Due.same("c", analyzer.pointsTo(Make.C), 0);
    Due.same("d by load", analyzer.pointsTo(Make.D), Make.set(Make.B, Make.C));
    Due.same("x by copy", analyzer.pointsTo(Make.x(0)), Make.set(Make.B));
    Due.same("y by allocation", analyzer.pointsTo(Make.y(0)), Make.set(Make.field(0, 0)));
    Due.same("p by a load from nowhere", analyzer.pointsTo(Make.p(0)), 0);
    Due.same("r", analyzer.pointsTo(Make.r(0)), 0);
    PointerAnalyzer own = Make.with("*a=a;a=&a");
    Due.same("a in itself", own.pointsTo(Make.A), 1);
  }

  private static void offsets() {
    PointerAnalyzer analyzer = Make.with("x=new;y=new;a=x+1;b=x+2;c=a+1;d=a+2;p=b+1;r=x+0");
    Due.same("x+1", analyzer.pointsTo(Make.A), Make.set(Make.field(0, 1)));
    Due.same("x+2", analyzer.pointsTo(Make.B), Make.set(Make.field(0, 2)));
    Due.same("x+1+1", analyzer.pointsTo(Make.C), Make.set(Make.field(0, 2)));
    Due.same("x+1+2", analyzer.pointsTo(Make.D), 0);
    Due.same("x+2+1", analyzer.pointsTo(Make.p(0)), 0);
    Due.same("x+0", analyzer.pointsTo(Make.r(0)), Make.set(Make.field(0, 0)));
    Due.same("y", analyzer.pointsTo(Make.y(0)), Make.set(Make.field(1, 0)));
    PointerAnalyzer variables = Make.with("a=&d;b=a+0;c=a+1;x=a+2;y=y+1;y=new");
    Due.same("variable + 0", variables.pointsTo(Make.B), Make.set(Make.D));
    Due.same("variable + 1", variables.pointsTo(Make.C), 0);
    Due.same("variable + 2", variables.pointsTo(Make.x(0)), 0);
    Due.same("a cycle of offsets", variables.pointsTo(Make.y(0)),
        Make.set(Make.field(0, 0), Make.field(0, 1), Make.field(0, 2)));
    PointerAnalyzer sites = Make.with(Make.times("x=new", 8), "");
    Make.body(sites, 1, "a=x");
    Make.body(sites, 0, Make.times("x=new", 8) + ";a=x+1;b=x+2;c=a+1");
    Due.same("all sites", sites.pointsTo(Make.x(0)), 0x249249L << 20);
    Due.same("all sites + 1", sites.pointsTo(Make.A), 0x249249L << 21);
    Due.same("all sites + 2", sites.pointsTo(Make.B), 0x249249L << 22);
    Due.same("all sites + 1 + 1", sites.pointsTo(Make.C), 0x249249L << 22);
  }

  private static void orderOfStatementsIsFree() {
    PointerAnalyzer analyzer = Make.with("d=c;c=b;b=a;a=&a");
    for (int variable = 0; variable < 4; variable++) {
      Due.same("against the order", analyzer.pointsTo(variable), 1);
    }
  }

  private static final String[] TWO_CALLS = {"x=&a;y=&b;c=f1(x);d=f1(y)", "r=p"};

  private static void callsMixWithoutContexts() {
    PointerAnalyzer analyzer = Make.with(0, TWO_CALLS);
    Due.same("c", analyzer.pointsTo(Make.C), Make.set(Make.A, Make.B));
    Due.same("d", analyzer.pointsTo(Make.D), Make.set(Make.A, Make.B));
    Due.same("p", analyzer.pointsToIn(Make.p(1), 0), Make.set(Make.A, Make.B));
    Due.noIndex("one context", () -> analyzer.pointsToIn(Make.p(1), 1));
  }

  private static void callsApartWithContexts() {
    PointerAnalyzer analyzer = Make.with(1, TWO_CALLS);
    Due.same("c", analyzer.pointsTo(Make.C), Make.set(Make.A));
    Due.same("d", analyzer.pointsTo(Make.D), Make.set(Make.B));
    Due.same("p in 0", analyzer.pointsToIn(Make.p(1), 0), Make.set(Make.A));
    Due.same("p in 1", analyzer.pointsToIn(Make.p(1), 1), Make.set(Make.B));
    Due.same("r in 1", analyzer.pointsToIn(Make.r(1), 1), Make.set(Make.B));
    Due.same("p", analyzer.pointsTo(Make.p(1)), Make.set(Make.A, Make.B));
    Due.same("x in its context", analyzer.pointsToIn(Make.x(0), 0), Make.set(Make.A));
    Due.same("a global", analyzer.pointsToIn(Make.C, 0), Make.set(Make.A));
  }

  private static void limitTwoTellsMore() {
    String[] bodies = {"x=&a;y=&b;c=f1(x);d=f1(y)", "r=f2(p)", "r=p"};
    PointerAnalyzer one = Make.with(1, bodies);
    Due.same("c by 1", one.pointsTo(Make.C), Make.set(Make.A, Make.B));
    PointerAnalyzer two = Make.with(2, bodies);
    Due.same("c by 2", two.pointsTo(Make.C), Make.set(Make.A));
    Due.same("d by 2", two.pointsTo(Make.D), Make.set(Make.B));
    Due.same("p of 2 in 1", two.pointsToIn(Make.p(2), 1), Make.set(Make.B));
    two.setLimit(0);
    Due.same("d by 0", two.pointsTo(Make.D), Make.set(Make.A, Make.B));
  }

  private static void localsByContext() {
    PointerAnalyzer analyzer = Make.with(1, "a=f1(a);b=f1(b)", "x=&y;y=&x;r=x;*r=r");
    Due.same("in 0", analyzer.pointsToIn(Make.x(1), 0), Make.set(Make.y(1)));
    Due.same("in 1", analyzer.pointsToIn(Make.y(1), 1), Make.set(Make.x(1), Make.y(1)));
    Due.same("a", analyzer.pointsTo(Make.A), Make.set(Make.y(1)));
    // p, x, r and twice y, in two contexts; a and b
    Due.same("facts by cells", analyzer.factCount(), 2 * 5 + 2);
    analyzer.setLimit(0);
    Due.same("facts without contexts", analyzer.factCount(), 5 + 2);
  }

  private static void pointersToLocals() {
    PointerAnalyzer analyzer = Make.with(1, "a=f1(a);b=f1(b);c=f2(a);d=f2(b)", "r=&x", "*p=p;r=*p");
    Due.same("a and b are apart", analyzer.pointsTo(Make.C), Make.set(Make.x(1)));
    Due.same("d", analyzer.pointsTo(Make.D), Make.set(Make.x(1)));
    Due.same("x in 0", analyzer.pointsToIn(Make.x(1), 0), Make.set(Make.x(1)));
    // a, b, c and d; p, r and x in two contexts of 1; p and r in two of 2
    Due.same("facts", analyzer.factCount(), 4 + 6 + 4);
  }

  private static void unreachableFunctions() {
    PointerAnalyzer analyzer = Make.with("a=b", "b=&c;x=&d;d=new");
    Due.same("a", analyzer.pointsTo(Make.A), 0);
    Due.same("x", analyzer.pointsTo(Make.x(1)), 0);
    Due.same("facts", analyzer.factCount(), 0);
    Due.noIndex("no context", () -> analyzer.pointsToIn(Make.x(1), 0));
    Make.body(analyzer, 0, "a=b;d=f1(a)");
    Due.same("a", analyzer.pointsTo(Make.A), Make.set(Make.C));
    Due.same("x", analyzer.pointsToIn(Make.x(1), 0), Make.set(Make.D));
  }

  private static void fields() {
    PointerAnalyzer analyzer = Make.with("x=new;y=x+1;*x=y;*y=x;a=*x;b=new;c=b+2;*c=y");
    Due.same("0.0", analyzer.fieldPointsTo(0, 0), Make.set(Make.field(0, 1)));
    Due.same("0.1", analyzer.fieldPointsTo(0, 1), Make.set(Make.field(0, 0)));
    Due.same("0.2", analyzer.fieldPointsTo(0, 2), 0);
    Due.same("1.0", analyzer.fieldPointsTo(1, 0), 0);
    Due.same("1.2", analyzer.fieldPointsTo(1, 2), Make.set(Make.field(0, 1)));
    Due.same("a", analyzer.pointsTo(Make.A), Make.set(Make.field(0, 1)));
    int[] wrong = {-1, 3, Integer.MIN_VALUE, Integer.MAX_VALUE};
    for (int value : wrong) {
      Due.noIndex("fieldPointsTo", () -> analyzer.fieldPointsTo(value, 0));
      Due.noIndex("fieldPointsTo", () -> analyzer.fieldPointsTo(0, value));
    }
    Due.noIndex("no third site", () -> analyzer.fieldPointsTo(2, 0));
    PointerAnalyzer unreached = Make.with("", "x=new");
    Due.same("a site that is not reached", unreached.fieldPointsTo(0, 0), 0);
  }

  private static void factCount() {
    Due.same("one", Make.with("a=&b").factCount(), 1);
    Due.same("twice the same", Make.with("a=&b;a=&b").factCount(), 1);
    Due.same("in fields", Make.with("x=new;*x=x").factCount(), 2);
    // a points to two cells of x, p in the first context too, and r in each context to its own
    Due.same("in the targets of two contexts",
        Make.with(1, "a=f1(a);a=f1(b)", "r=&x").factCount(), 2 + 2 + 2);
  }

  private static void mayAlias() {
    PointerAnalyzer analyzer = Make.with("a=&c;a=&d;b=&d;x=&b");
    Due.same("common", analyzer.mayAlias(Make.A, Make.B), true);
    Due.same("the other way", analyzer.mayAlias(Make.B, Make.A), true);
    Due.same("apart", analyzer.mayAlias(Make.A, Make.x(0)), false);
    Due.same("the same", analyzer.mayAlias(Make.A, Make.A), true);
    Due.same("the same without targets", analyzer.mayAlias(Make.C, Make.C), false);
    int[] wrong = {-1, 20, Integer.MIN_VALUE, Integer.MAX_VALUE};
    for (int value : wrong) {
      Due.noIndex("mayAlias", () -> analyzer.mayAlias(value, 0));
      Due.noIndex("mayAlias", () -> analyzer.mayAlias(0, value));
    }
  }

  private static void reach() {
    PointerAnalyzer analyzer = Make.with("a=&b;b=&c;c=&b;x=new;y=x+1;*y=a;p=new;*p=y;d=x");
    Due.same("a", analyzer.reach(Make.A), Make.set(Make.B, Make.C));
    Due.same("b in a cycle", analyzer.reach(Make.B), Make.set(Make.B, Make.C));
    Due.same("x, not its other fields", analyzer.reach(Make.x(0)), Make.set(Make.field(0, 0)));
    Due.same("y", analyzer.reach(Make.y(0)), Make.set(Make.field(0, 1), Make.B, Make.C));
    Due.same("p", analyzer.reach(Make.p(0)),
        Make.set(Make.field(1, 0), Make.field(0, 1), Make.B, Make.C));
    Due.same("r", analyzer.reach(Make.r(0)), 0);
    PointerAnalyzer contexts = Make.with(1, "a=&c;b=&d;a=f1(a);b=f1(b)", "x=p;r=&x");
    Due.same("by pointsTo, not by cells", contexts.reach(Make.A),
        Make.set(Make.C, Make.D, Make.x(1)));
  }

  private static void escapingSites() {
    PointerAnalyzer analyzer = Make.with("x=new;y=new;p=new;r=x+2;*r=y;a=r;b=&p");
    Due.same("by a local", analyzer.escapingSites(), 1 | 2 | 4);
    Make.body(analyzer, 0, "x=new;y=new;p=new;r=x+2;*r=y;c=r");
    Due.same("by a field", analyzer.escapingSites(), 1 | 2);
    Make.body(analyzer, 0, "x=new;y=new;p=new;r=x+2;*r=y;d=x");
    Due.same("not by another field", analyzer.escapingSites(), 1);
    Make.body(analyzer, 0, "x=new;y=x");
    Due.same("none", analyzer.escapingSites(), 0);
    Make.body(analyzer, 0, Make.times("d=new", 8));
    Due.same("all", analyzer.escapingSites(), 255);
    Make.body(analyzer, 0, Make.times("x=new", 7) + ";a=new;b=a+2;a=&a");
    Due.same("the last", analyzer.escapingSites(), 128);
    Make.body(analyzer, 0, Make.times("x=new", 7) + ";y=new;b=y+2");
    Due.same("the last by its last field", analyzer.escapingSites(), 128);
  }

  private static void answersFollowChanges() {
    PointerAnalyzer analyzer = Make.with("a=&b");
    Due.same("before", analyzer.pointsTo(Make.A), 2);
    analyzer.save();
    Make.body(analyzer, 0, "a=&c");
    Due.same("after setBody", analyzer.pointsTo(Make.A), 4);
    Due.same("facts", analyzer.factCount(), 1);
    analyzer.restore();
    Due.same("after restore", analyzer.pointsTo(Make.A), 2);
    analyzer.run();
    Due.same("after run", analyzer.pointsTo(Make.A), 2);
  }

  /** Each question must be answered also when it is the first one. */
  private static void firstQuestion() {
    String[] bodies = {"x=new;a=&b;*x=a;c=x;d=f0(a)"};
    Due.same("pointsTo", Make.with(1, bodies).pointsTo(Make.A), Make.set(Make.B));
    Due.same("pointsToIn", Make.with(1, bodies).pointsToIn(Make.p(0), 1), Make.set(Make.B));
    Due.same("p of 0 in the empty context", Make.with(1, bodies).pointsToIn(Make.p(0), 0), 0);
    Due.same("fieldPointsTo", Make.with(1, bodies).fieldPointsTo(0, 0), Make.set(Make.B));
    // a, c, x twice, p in the second context, and the field
    Due.same("factCount", Make.with(1, bodies).factCount(), 6);
    Due.same("mayAlias", Make.with(1, bodies).mayAlias(Make.A, Make.p(0)), true);
    Due.same("reach", Make.with(1, bodies).reach(Make.C), Make.set(Make.field(0, 0), Make.B));
    Due.same("escapingSites", Make.with(1, bodies).escapingSites(), 1);
    Due.same("modifies", Make.with(1, bodies).modifies(0), Make.set(Make.field(0, 0)));
    Due.exact("averageTargets", Make.with(1, bodies).averageTargets(), 1.0f);
    Due.exact("precision", Make.with(1, bodies).precision(), 4.0 / 8.0);
  }

  private static void wrongArguments() {
    PointerAnalyzer analyzer = Make.with(1, "a=f1(a);a=f1(b)");
    int[] wrong = {-1, 20, Integer.MIN_VALUE, Integer.MAX_VALUE};
    for (int value : wrong) {
      Due.noIndex("pointsTo", () -> analyzer.pointsTo(value));
      Due.noIndex("pointsToIn", () -> analyzer.pointsToIn(value, 0));
      Due.noIndex("pointsToIn a global", () -> analyzer.pointsToIn(0, value));
      Due.noIndex("pointsToIn a local", () -> analyzer.pointsToIn(Make.p(1), value));
      Due.noIndex("reach", () -> analyzer.reach(value));
    }
    Due.noIndex("a global in 1", () -> analyzer.pointsToIn(3, 1));
    Due.noIndex("a local of 0 in 1", () -> analyzer.pointsToIn(4, 1));
    Due.noIndex("a local of 1 in 2", () -> analyzer.pointsToIn(8, 2));
    Due.same("a local of 1 in 1", analyzer.pointsToIn(11, 1), 0);
  }
}
