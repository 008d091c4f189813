/** Promises 23 to 25: the unification analysis. */
final class UnificationTest {
  public static void main(String[] args) {
    eachStatement();
    congruence();
    calls();
    unreachableFunctions();
    sites();
    classes();
    answersFollowChanges();
    wrongArguments();
    Due.finish();
  }

  private static void eachStatement() {
    PointerAnalyzer address = Make.with("a=&b");
    Due.same("address", address.unifiedTargets(Make.A), Make.set(Make.B));
    Due.same("not the other way", address.unifiedTargets(Make.B), 0);
    PointerAnalyzer copy = Make.with("a=&b;c=a");
    Due.same("copy", copy.unifiedTargets(Make.C), Make.set(Make.B));
    PointerAnalyzer back = Make.with("a=&b;a=c");
    Due.same("copy goes both ways", back.unifiedTargets(Make.C), Make.set(Make.B));
    PointerAnalyzer load = Make.with("a=&b;b=&c;d=*a");
    Due.same("load", load.unifiedTargets(Make.D), Make.set(Make.C));
    PointerAnalyzer store = Make.with("a=&b;*a=c;c=&d");
    Due.same("store", store.unifiedTargets(Make.B), Make.set(Make.D));
    PointerAnalyzer allocation = Make.with("a=new");
    Due.same("allocation", allocation.unifiedTargets(Make.A),
        Make.set(Make.field(0, 0), Make.field(0, 1), Make.field(0, 2)));
    for (int offset = 0; offset <= 2; offset++) {
      PointerAnalyzer shifted = Make.with("a=&b;c=a+" + offset);
      Due.same("offset", shifted.unifiedTargets(Make.C), Make.set(Make.B));
    }
  }

  private static void congruence() {
    PointerAnalyzer two = Make.with("a=&b;a=&c;b=&x;c=&y");
    Due.same("both", two.unifiedTargets(Make.A), Make.set(Make.B, Make.C));
    Due.same("b and c", two.areUnified(Make.B, Make.C), true);
    Due.same("what they point to", two.areUnified(Make.x(0), Make.y(0)), true);
    Due.same("a is apart", two.areUnified(Make.A, Make.B), false);
    PointerAnalyzer early = Make.with("b=&x;c=&y;a=&b;a=&c");
    Due.same("in any order", early.areUnified(Make.x(0), Make.y(0)), true);
    PointerAnalyzer deep = Make.with("a=&b;b=&c;c=&d;x=&y;y=&p;p=&r;a=x");
    Due.same("first", deep.areUnified(Make.B, Make.y(0)), true);
    Due.same("second", deep.areUnified(Make.C, Make.p(0)), true);
    Due.same("third", deep.areUnified(Make.D, Make.r(0)), true);
    Due.same("not the first ones", deep.areUnified(Make.A, Make.x(0)), false);
    PointerAnalyzer loop = Make.with("a=&a;a=&b;b=&c;c=&d");
    Due.same("in a loop", loop.unifiedTargets(Make.D),  Make.set(Make.A, Make.B, Make.C, Make.D));
    PointerAnalyzer unnamed = Make.with("d=*a;a=b;*b=c;c=&x");
    Due.same("by unnamed terms", unnamed.unifiedTargets(Make.D), Make.set(Make.x(0)));
  }

  private static void calls() {
    PointerAnalyzer analyzer = Make.with("a=&b;c=f1(a)", "r=&x");
    Due.same("p", analyzer.unifiedTargets(Make.p(1)), Make.set(Make.B));
    Due.same("c", analyzer.unifiedTargets(Make.C), Make.set(Make.x(1)));
    Make.body(analyzer, 1, "r=p");
    Due.same("c by r", analyzer.unifiedTargets(Make.C), Make.set(Make.B));
    Make.body(analyzer, 0, "a=&b;d=&c;c=f1(a);b=f1(d)");
    Due.same("no contexts", analyzer.areUnified(Make.B, Make.C), true);
  }

  private static void unreachableFunctions() {
    PointerAnalyzer analyzer = Make.with("", "a=&b;x=new", "c=f3(a)", "r=p");
    Due.same("a", analyzer.unifiedTargets(Make.A), Make.set(Make.B));
    Due.same("x", analyzer.unifiedTargets(Make.x(1)), 7L << 20);
    Due.same("c", analyzer.unifiedTargets(Make.C), Make.set(Make.B));
    Due.same("but no inclusion", analyzer.pointsTo(Make.A), 0);
  }

  private static void sites() {
    PointerAnalyzer analyzer = Make.with(Make.times("x=new", 7) + ";y=new", "a=&b");
    Due.same("seven", analyzer.unifiedTargets(Make.x(0)), (1L << 21) - 1 << 20);
    Due.same("the last", analyzer.unifiedTargets(Make.y(0)), 7L << 41);
    PointerAnalyzer mixed = Make.with("x=new;x=&b;*x=a;b=&c");
    Due.same("a site and a variable", mixed.unifiedTargets(Make.x(0)), Make.set(Make.B) | 7L << 20);
    Due.same("in it", mixed.unifiedTargets(Make.A), Make.set(Make.C));
  }

  private static void classes() {
    Due.same("none", Make.with("").unifiedClasses(), 20);
    Due.same("a site more", Make.with("a=new").unifiedClasses(), 21);
    Due.same("two sites together", Make.with("a=new;a=new").unifiedClasses(), 21);
    Due.same("a site with a variable", Make.with("a=new;a=&b").unifiedClasses(), 20);
    Due.same("pointees do not count", Make.with("a=b;c=d").unifiedClasses(), 20);
    Due.same("two variables", Make.with("a=&b;a=&c").unifiedClasses(), 19);
    Due.same("with the first variable", Make.with("b=&a;b=&c").unifiedClasses(), 19);
    Due.same("with the last variable", Make.with("", "", "", "x=&a;x=&y").unifiedClasses(), 19);
    Due.same("a site apart", Make.with("a=new;b=new;x=&y;x=&p").unifiedClasses(), 21);
  }

  private static void answersFollowChanges() {
    PointerAnalyzer analyzer = Make.with("a=&b");
    Due.same("before", analyzer.unifiedTargets(Make.A), 2);
    analyzer.save();
    Make.body(analyzer, 0, "a=&c");
    Due.same("after setBody", analyzer.unifiedTargets(Make.A), 4);
    analyzer.setLimit(2);
    Due.same("after setLimit", analyzer.unifiedTargets(Make.A), 4);
    analyzer.restore();
    Due.same("after restore", analyzer.unifiedTargets(Make.A), 2);
  }

  private static void wrongArguments() {
    PointerAnalyzer analyzer = Make.with("a=&b");
    int[] wrong = {-1, 20, 28, Integer.MIN_VALUE, Integer.MAX_VALUE};
    for (int value : wrong) {
      Due.noIndex("unifiedTargets", () -> analyzer.unifiedTargets(value));
      Due.noIndex("areUnified", () -> analyzer.areUnified(value, 0));
      Due.noIndex("areUnified", () -> analyzer.areUnified(0, value));
    }
    Due.same("the same", analyzer.areUnified(19, 19), true);
  }
}
