/** Promises 30 to 34: runs and what is observed in them. */
final class RunTest {
  public static void main(String[] args) {
    eachStatement();
    faultsHaveNoEffect();
    offsets();
    nullValues();
    observedAtSomeTime();
    calls();
    ownLocals();
    pointersThatStay();
    sixActivations();
    twoHundredStatements();
    lastStatementIsCall();
    lastStatementOfCallee();
    memoryForAll();
    runsAnew();
    forgotten();
    wrongArguments();
    Due.finish();
  }

  private static void eachStatement() {
    PointerAnalyzer analyzer = Make.with("a=&b;b=&c;d=*a;*a=a;x=b;y=new;*y=x;r=*y");
    Due.same("run", analyzer.run(), 8);
    Due.same("faults", analyzer.faults(), 0);
    Due.same("objects", analyzer.objects(), 1);
    Due.same("a", analyzer.observed(Make.A), Make.set(Make.B));
    Due.same("b", analyzer.observed(Make.B), Make.set(Make.B, Make.C));
    Due.same("d", analyzer.observed(Make.D), Make.set(Make.C));
    Due.same("x", analyzer.observed(Make.x(0)), Make.set(Make.B));
    Due.same("y", analyzer.observed(Make.y(0)), Make.set(Make.field(0, 0)));
    Due.same("field", analyzer.fieldObserved(0, 0), Make.set(Make.B));
    Due.same("r", analyzer.observed(Make.r(0)), Make.set(Make.B));
  }

  private static void faultsHaveNoEffect() {
    PointerAnalyzer analyzer = Make.with("d=&d;d=*a;*a=d;x=d;y=&d;y=y+1;r=y;d=d+2;p=d");
    Due.same("run", analyzer.run(), 9);
    Due.same("faults", analyzer.faults(), 4);
    Due.same("x", analyzer.observed(Make.x(0)), Make.set(Make.D));
    Due.same("r", analyzer.observed(Make.r(0)), Make.set(Make.D));
    Due.same("p", analyzer.observed(Make.p(0)), Make.set(Make.D));
    Due.same("a", analyzer.observed(Make.A), 0);
  }

  private static void offsets() {
    PointerAnalyzer analyzer = Make.with("x=new;a=x+1;b=a+1;c=b+1;d=x+2;y=a+2;r=x+0;p=d+0");
    Due.same("run", analyzer.run(), 8);
    Due.same("faults", analyzer.faults(), 2);
    Due.same("a", analyzer.observed(Make.A), Make.set(Make.field(0, 1)));
    Due.same("b", analyzer.observed(Make.B), Make.set(Make.field(0, 2)));
    Due.same("c", analyzer.observed(Make.C), 0);
    Due.same("d", analyzer.observed(Make.D), Make.set(Make.field(0, 2)));
    Due.same("y", analyzer.observed(Make.y(0)), 0);
    Due.same("r", analyzer.observed(Make.r(0)), Make.set(Make.field(0, 0)));
    Due.same("p", analyzer.observed(Make.p(0)), Make.set(Make.field(0, 2)));
    PointerAnalyzer variable = Make.with("a=&b;c=a+0;d=a+1");
    variable.run();
    Due.same("variable + 0", variable.observed(Make.C), Make.set(Make.B));
    Due.same("variable + 1", variable.faults(), 1);
    PointerAnalyzer sites = Make.with("x=new;y=new;x=x+2;x=x+1;y=y+2");
    sites.run();
    Due.same("not into the next object", sites.faults(), 1);
    Due.same("x", sites.observed(Make.x(0)), Make.set(Make.field(0, 0), Make.field(0, 2)));
  }

  private static void nullValues() {
    PointerAnalyzer offset = Make.with("a=&b;a=c+1;d=a;a=&b;a=c+0;d=a;a=&b;a=c+2;*a=b");
    Due.same("run", offset.run(), 9);
    Due.same("null + n is no fault", offset.faults(), 1);
    Due.same("d", offset.observed(Make.D), 0);
    PointerAnalyzer copy = Make.with("a=&b;a=c;*a=a");
    copy.run();
    Due.same("copy of null", copy.faults(), 1);
    PointerAnalyzer store = Make.with("a=&b;b=&c;*a=d;x=*b");
    store.run();
    Due.same("store of null", store.faults(), 1);
    PointerAnalyzer load = Make.with("a=&b;x=&x;x=*a;*x=a");
    load.run();
    Due.same("load of null", load.faults(), 1);
    PointerAnalyzer result = Make.with("x=&a;x=f1(x);*x=x", "p=r");
    Due.same("run", result.run(), 4);
    Due.same("null result", result.faults(), 1);
    PointerAnalyzer parameter = Make.with("a=&b;b=f1(c);b=f1(a)", "r=*p");
    parameter.run();
    Due.same("null parameter", parameter.faults(), 1);
  }

  private static void observedAtSomeTime() {
    PointerAnalyzer analyzer = Make.with("a=&b;a=&c;a=d;a=&d");
    analyzer.run();
    Due.same("a", analyzer.observed(Make.A), Make.set(Make.B, Make.C, Make.D));
    PointerAnalyzer indirect = Make.with("x=&y;*x=x;a=new;b=a+2;*b=a;*b=b;*b=c");
    indirect.run();
    Due.same("by a store", indirect.observed(Make.y(0)), Make.set(Make.y(0)));
    Due.same("in a field", indirect.fieldObserved(0, 2),
        Make.set(Make.field(0, 0), Make.field(0, 2)));
    Due.same("in another field", indirect.fieldObserved(0, 0), 0);
  }

  private static void calls() {
    PointerAnalyzer analyzer = Make.with("a=&c;b=f1(a);d=f2(b)", "r=p", "x=f3(p);r=&x", "a=new");
    Due.same("run", analyzer.run(), 7);
    Due.same("p", analyzer.observed(Make.p(1)), Make.set(Make.C));
    Due.same("r", analyzer.observed(Make.r(1)), Make.set(Make.C));
    Due.same("b", analyzer.observed(Make.B), Make.set(Make.C));
    Due.same("p of 3", analyzer.observed(Make.p(3)), Make.set(Make.C));
    Due.same("x of 2", analyzer.observed(Make.x(2)), 0);
    Due.same("d", analyzer.observed(Make.D), Make.set(Make.x(2)));
    Due.same("a", analyzer.observed(Make.A), Make.set(Make.C, Make.field(0, 0)));
    PointerAnalyzer local = Make.with("x=&a;y=f1(x);r=y", "r=p");
    local.run();
    Due.same("results into locals", local.observed(Make.r(0)), Make.set(Make.A));
    PointerAnalyzer same = Make.with("a=&b;x=f0(a)");
    Due.same("a call of itself", same.run(), 12);
    Due.same("p of it", same.observed(Make.p(0)), Make.set(Make.B));
    PointerAnalyzer empty = Make.with("a=&b;x=f1(a);a=f1(a);*a=a");
    Due.same("a call of an empty body", empty.run(), 4);
    Due.same("its p", empty.observed(Make.p(1)), Make.set(Make.B));
    Due.same("its result", empty.faults(), 1);
  }

  private static void ownLocals() {
    PointerAnalyzer analyzer = Make.with("b=f1(a);b=f1(a)", "y=x;x=&a;r=y");
    analyzer.run();
    Due.same("x is null at first", analyzer.observed(Make.y(1)), 0);
    PointerAnalyzer nested = Make.with("a=f1(b)", "x=&p;c=f2(p);d=x", "x=&r;y=f3(p)", "x=new");
    nested.run();
    Due.same("x of 1 stays", nested.observed(Make.D), Make.set(Make.p(1)));
    PointerAnalyzer deep = Make.with("y=x;x=&y;a=f0(b);b=x");
    deep.run();
    Due.same("y of each activation", deep.observed(Make.y(0)), 0);
    Due.same("b", deep.observed(Make.B), Make.set(Make.y(0)));
  }

  private static void pointersThatStay() {
    PointerAnalyzer analyzer = Make.with("x=f1(a);y=f1(a);*x=x;a=*x;b=*y;*a=y;c=*x", "r=&x");
    Due.same("run", analyzer.run(), 9);
    Due.same("faults", analyzer.faults(), 0);
    Due.same("x", analyzer.observed(Make.x(1)), Make.set(Make.x(1)));
    Due.same("a", analyzer.observed(Make.A), Make.set(Make.x(1)));
    Due.same("b: the other x", analyzer.observed(Make.B), 0);
    Due.same("c", analyzer.observed(Make.C), Make.set(Make.x(1)));
    PointerAnalyzer objects = Make.with("x=f1(a);y=f1(a);*x=x;b=*y;c=*x", "r=new");
    objects.run();
    Due.same("objects", objects.objects(), 2);
    Due.same("objects of one site are apart", objects.observed(Make.B), 0);
    Due.same("c", objects.observed(Make.C), Make.set(Make.field(0, 0)));
  }

  private static void sixActivations() {
    Due.same("a line", Make.with("a=f0(b)").run(), 6);
    Due.same("a tree", Make.with("a=f0(a);b=f0(b)").run(), 2 + 4 + 8 + 16 + 32 + 64);
    PointerAnalyzer analyzer = Make.with("a=&b;r=&a;x=&c;x=f0(a);y=x");
    Due.same("run", analyzer.run(), 30);
    Due.same("a call beyond has no effect on v", analyzer.observed(Make.y(0)),
        Make.set(Make.A, Make.C));
    PointerAnalyzer five = Make.with("a=f1(b)", "a=f2(b)", "a=f3(b)", "a=f1(b)");
    Due.same("of several functions", five.run(), 6);
    PointerAnalyzer again = Make.with("a=f1(b);a=f1(b)", "a=f1(b)");
    Due.same("closed ones do not count", again.run(), 2 + 5 + 5);
  }

  private static void twoHundredStatements() {
    PointerAnalyzer analyzer = Make.with("a=f0(a);b=f0(b);c=new");
    Due.same("not yet", analyzer.run(), 189);
    Make.body(analyzer, 0, "a=f0(a);b=f0(b);c=new;d=new");
    Due.same("over", analyzer.run(), 200);
    PointerAnalyzer thrice = Make.with("a=f0(a);a=f0(a);a=f0(a)");
    Due.same("over", thrice.run(), 200);
  }

  /** A run whose call "c=f2(a)", with a pointing to b, is its statement with this number. */
  private static PointerAnalyzer callAt(int number, String called) {
    PointerAnalyzer analyzer = Make.fromStatement190(number - 191, "a=&b;c=f2(a)", called);
    analyzer.run();
    return analyzer;
  }

  private static void lastStatementIsCall() {
    PointerAnalyzer before = callAt(199, "");
    Due.same("a call of an empty body is 199", before.run(), 199);
    Due.same("p", before.observed(Make.p(2)), Make.set(Make.B));
    PointerAnalyzer last = callAt(200, "");
    Due.same("a call of an empty body is 200", last.run(), 200);
    Due.same("p gets nothing", last.observed(Make.p(2)), 0);
    PointerAnalyzer full = callAt(200, "r=p");
    Due.same("a call is 200", full.run(), 200);
    Due.same("p gets nothing", full.observed(Make.p(2)), 0);
    Due.same("c gets nothing", full.observed(Make.C), 0);
    PointerAnalyzer over = callAt(201, "r=p");
    Due.same("the call is not executed", over.run(), 200);
    Due.same("but what is before it", over.observed(Make.A), Make.set(Make.B));
  }

  private static void lastStatementOfCallee() {
    PointerAnalyzer before = callAt(198, "r=p");
    Due.same("199 is the last of the callee", before.run(), 199);
    Due.same("c gets the result", before.observed(Make.C), Make.set(Make.B));
    PointerAnalyzer last = callAt(199, "r=p");
    Due.same("200 is the last of the callee", last.run(), 200);
    Due.same("r", last.observed(Make.r(2)), Make.set(Make.B));
    Due.same("the open call has no effect", last.observed(Make.C), 0);
  }

  private static void memoryForAll() {
    PointerAnalyzer calls = Make.with("a=f1(b);a=f0(a);a=f0(a);a=f0(a)", "r=&x");
    Due.same("many activations", calls.run(), 200);
    Due.same("of function 1", calls.observed(Make.A) & Make.set(Make.x(1)), Make.set(Make.x(1)));
    PointerAnalyzer objects = Make.with(Make.times("a=new", 8) + ";b=f0(a);b=f0(a);c=f0(a)");
    Due.same("many objects", objects.run(), 200);
    Due.same("counted", objects.objects() > 140, true);
  }

  private static void runsAnew() {
    PointerAnalyzer analyzer = Make.with("b=a;a=new;*b=a");
    for (int time = 0; time < 3; time++) {
      Due.same("run", analyzer.run(), 3);
      Due.same("objects", analyzer.objects(), 1);
      Due.same("faults", analyzer.faults(), 1);
      Due.same("b is null again", analyzer.observed(Make.B), 0);
    }
  }

  private static void forgotten() {
    PointerAnalyzer analyzer = Make.with("a=new;*a=a;*b=a");
    analyzer.save();
    Due.same("no run", analyzer.observed(Make.A), 0);
    analyzer.run();
    analyzer.setLimit(1);
    analyzer.save();
    Due.thrown("setLimit", IllegalArgumentException.class, () -> analyzer.setLimit(3));
    sameObserved(analyzer, 1);
    analyzer.restore();
    sameObserved(analyzer, 0);
    analyzer.run();
    sameObserved(analyzer, 1);
    Make.body(analyzer, 3, "");
    sameObserved(analyzer, 0);
    analyzer.run();
    Make.body(analyzer, 0, "a=new;*a=a;*b=a");
    sameObserved(analyzer, 0);
  }

  private static void sameObserved(PointerAnalyzer analyzer, int due) {
    Due.same("observed", analyzer.observed(Make.A), (long) due << 20);
    Due.same("fieldObserved", analyzer.fieldObserved(0, 0), (long) due << 20);
    Due.same("faults", analyzer.faults(), due);
    Due.same("objects", analyzer.objects(), due);
  }

  private static void wrongArguments() {
    PointerAnalyzer analyzer = Make.with("a=new;b=new");
    analyzer.run();
    int[] wrong = {-1, 20, Integer.MIN_VALUE, Integer.MAX_VALUE};
    for (int value : wrong) {
      Due.noIndex("observed", () -> analyzer.observed(value));
      Due.noIndex("fieldObserved", () -> analyzer.fieldObserved(value == 20 ? 2 : value, 0));
      Due.noIndex("fieldObserved", () -> analyzer.fieldObserved(1, value == 20 ? 3 : value));
    }
    Due.same("the last", analyzer.fieldObserved(1, 2), 0);
    PointerAnalyzer empty = new PointerAnalyzer();
    Due.noIndex("no sites", () -> empty.fieldObserved(0, 0));
  }
}
