/** Promises 26, 28 and 29: effects of functions, recursion, and cycles of copies. */
final class EffectTest {
  public static void main(String[] args) {
    modifies();
    modifiesByCalls();
    modifiesOfUnreachableFunctions();
    isRecursive();
    cyclesOfCopies();
    cyclesOfCalls();
    noEdges();
    wrongArguments();
    Due.finish();
  }

  private static void modifies() {
    PointerAnalyzer analyzer = Make.with("a=&b;c=&d;*a=c;x=new;y=x+1;*y=x;*r=a");
    Due.same("stores", analyzer.modifies(0), Make.set(Make.B, Make.field(0, 1)));
    PointerAnalyzer contexts = Make.with(1, "a=&c;b=&d;x=f1(a);x=f1(b)", "*p=p");
    Due.same("in all contexts", contexts.modifies(1), Make.set(Make.C, Make.D));
    Due.same("by the caller", contexts.modifies(0), Make.set(Make.C, Make.D));
    Due.same("by the first statement", Make.with("*a=b;a=&c").modifies(0), Make.set(Make.C));
    Due.same("by the last statement", Make.with("", "", "", "*a=b").modifies(3), 0);
    Due.same("not by copies", Make.with("a=&b;a=b;b=*a").modifies(0), 0);
  }

  private static void modifiesByCalls() {
    PointerAnalyzer analyzer = Make.with(
        "a=&a;b=&b;c=&c;d=&d;*a=a;x=f1(a)", "*b=b;x=f2(b)", "*c=c;x=f1(c)", "*d=d;x=f0(d)");
    Due.same("0", analyzer.modifies(0), Make.set(Make.A, Make.B, Make.C));
    Due.same("1", analyzer.modifies(1), Make.set(Make.B, Make.C));
    Due.same("2", analyzer.modifies(2), Make.set(Make.B, Make.C));
    Due.same("3 is not reachable", analyzer.modifies(3), 15);
  }

  private static void modifiesOfUnreachableFunctions() {
    PointerAnalyzer analyzer = Make.with("a=&b", "*a=c;x=&y;*x=a");
    Due.same("by a global alone", analyzer.modifies(1), Make.set(Make.B));
    Due.same("0", analyzer.modifies(0), 0);
  }

  private static void isRecursive() {
    PointerAnalyzer analyzer = Make.with("a=f1(a)", "a=f2(a)", "a=f1(a)", "a=f3(a)");
    boolean[] due = {false, true, true, true};
    for (int function = 0; function < 4; function++) {
      Due.same("isRecursive", analyzer.isRecursive(function), due[function]);
    }
    Make.body(analyzer, 2, "a=f0(a)");
    Due.same("by two others", analyzer.isRecursive(0), true);
    Due.same("by all", analyzer.isRecursive(2), true);
    PointerAnalyzer all = Make.with("a=f1(a)", "a=f2(a)", "a=f3(a)", "a=f0(a)");
    Due.same("in a ring", all.isRecursive(3), true);
    Make.body(all, 1, "");
    Due.same("no more", all.isRecursive(3), false);
  }

  private static void cyclesOfCopies() {
    PointerAnalyzer analyzer = Make.with("a=b;b=c;c=a;d=a;x=x", "x=y;y=a", "y=d;d=y");
    Due.same("a", analyzer.cycleOf(Make.A), Make.set(Make.A, Make.B, Make.C));
    Due.same("c", analyzer.cycleOf(Make.C), Make.set(Make.A, Make.B, Make.C));
    Due.same("one way only", analyzer.cycleOf(Make.x(1)), Make.set(Make.x(1)));
    Due.same("of an unreachable function", analyzer.cycleOf(Make.D), Make.set(Make.D, Make.y(2)));
    Due.same("itself", analyzer.cycleOf(Make.x(0)), Make.set(Make.x(0)));
    Due.same("without statements", analyzer.cycleOf(19), 1L << 19);
  }

  private static void cyclesOfCalls() {
    PointerAnalyzer analyzer = Make.with("d=f1(d)", "r=p");
    Due.same("d", analyzer.cycleOf(Make.D), Make.set(Make.D, Make.p(1), Make.r(1)));
    Due.same("p", analyzer.cycleOf(Make.p(1)), Make.set(Make.D, Make.p(1), Make.r(1)));
    Make.body(analyzer, 1, "");
    Due.same("without the body", analyzer.cycleOf(Make.D), Make.set(Make.D));
    PointerAnalyzer apart = Make.with("a=f1(b);b=f1(c)", "r=p");
    Due.same("b by calls without contexts", apart.cycleOf(Make.B),
        Make.set(Make.B, Make.p(1), Make.r(1)));
    Due.same("a", apart.cycleOf(Make.A), Make.set(Make.A));
    PointerAnalyzer unreachable = Make.with("", "x=f3(x)", "", "r=p;p=r");
    Due.same("unreachable", unreachable.cycleOf(Make.r(3)),
        Make.set(Make.p(3), Make.r(3), Make.x(1)));
  }

  private static void noEdges() {
    PointerAnalyzer analyzer = Make.with("a=b+0;b=a+0;c=*d;d=*c;*c=d;*d=c;x=&y;y=&x");
    for (int variable = 0; variable < 20; variable++) {
      Due.same("alone", analyzer.cycleOf(variable), 1L << variable);
    }
  }

  private static void wrongArguments() {
    PointerAnalyzer analyzer = Make.with("a=f0(b)");
    int[] wrong = {-1, 4, Integer.MIN_VALUE, Integer.MAX_VALUE};
    for (int value : wrong) {
      Due.noIndex("modifies", () -> analyzer.modifies(value));
      Due.noIndex("isRecursive", () -> analyzer.isRecursive(value));
      Due.noIndex("cycleOf", () -> analyzer.cycleOf(value == 4 ? 20 : value));
    }
  }
}
