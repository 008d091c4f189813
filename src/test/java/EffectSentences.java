/** The sentences of the promises 26, 28 and 29: stores, recursion, and cycles. */
final class EffectSentences {
  private EffectSentences() {
  }

  static void all() {
    edgesOfAllBodies();
    modifies();
    isRecursive();
    cycleOf();
  }

  private static void edgesOfAllBodies() {
    Sentence.of(0, "The edges for cycles, and the calls by which functions call one another, are "
        + "those of all bodies, also of functions that are not reachable.");
    PointerAnalyzer analyzer = Make.with("d=&c", "x=f2(x);a=b", "x=f1(x);b=a;*d=d", "c=f3(c);r=p");
    Due.same("edges", analyzer.cycleOf(Make.A), Make.set(Make.A, Make.B));
    Due.same("edges of calls", analyzer.cycleOf(Make.C), Make.set(Make.C, Make.p(3), Make.r(3)));
    Due.same("calls", analyzer.isRecursive(1), true);
    Due.same("of itself", analyzer.isRecursive(3), true);
    Due.same("stores by calls", analyzer.modifies(1), Make.set(Make.C));
    for (int function = 1; function < 4; function++) {
      Due.same("unreachable", analyzer.isReachable(function), false);
    }
  }

  private static void modifies() {
    modifiesAnswer();
    modifiesOfFunction();
    modifiesSet();
    modifiesThrowsIndex();
  }

  private static PointerAnalyzer modifiesEnds() {
    return Make.with("a=&b;*a=a;x=f3(x)", "", "", "c=&d;*c=c");
  }

  private static void modifiesAnswer() {
    Sentence.of(26, "for each store \"*v=w\" in its body, or in the body of a function that it can "
        + "call, directly or by others, all targets to which v points.");
    PointerAnalyzer own = Make.with("a=&b;a=&c;*a=d;x=new;y=x+2;*y=x");
    Due.same("its own stores", own.modifies(0), Make.set(Make.B, Make.C, Make.field(0, 2)));
    PointerAnalyzer line = Make.with("a=&a;b=&b;c=&c;d=&d;*a=x;x=f1(x)", "*b=x;x=f2(x)",
        "*c=x;x=f3(x)", "*d=x");
    Due.same("by three calls", line.modifies(0), 15);
    Due.same("by two", line.modifies(1), 14);
    Due.same("by one", line.modifies(2), 12);
    Due.same("by none", line.modifies(3), 8);
    Make.body(line, 3, "*d=x;x=f1(x)");
    Due.same("in a cycle", line.modifies(3), 14);
    Due.same("not those of a caller", line.modifies(1), 14);
    Due.same("by no other statement", Make.with("a=&b;a=b;b=*a;a=new;b=a+1").modifies(0), 0);
    PointerAnalyzer contexts = Make.with(2, "a=&c;b=&d;x=f1(a);x=f1(b)", "*p=p");
    Due.same("in all contexts", contexts.modifies(1), Make.set(Make.C, Make.D));
    PointerAnalyzer limits = Make.with("x=&a;y=&b;c=f1(x);d=f1(y);*c=x", "r=p");
    Due.same("by the limit 0", limits.modifies(0), Make.set(Make.A, Make.B));
    limits.setLimit(1);
    Due.same("by the limit 1", limits.modifies(0), Make.set(Make.A));
    Due.same("of the last statement of 48", Make.with("d=&d;" + Make.times("c=d", 11),
        Make.times("c=d", 12), Make.times("c=d", 12), Make.times("c=d", 11) + ";*d=a").modifies(3),
        8);
  }

  private static void modifiesOfFunction() {
    Sentence.of(26, "function: the function, 0 to 3");
    PointerAnalyzer ends = modifiesEnds();
    Due.same("the first", ends.modifies(0), Make.set(Make.B, Make.D));
    Due.same("the last", ends.modifies(3), Make.set(Make.D));
  }

  private static void modifiesSet() {
    Sentence.of(26, "Returns the set of targets.");
    Due.same("no statements", new PointerAnalyzer().modifies(0), 0);
    Due.same("a store to nowhere", Make.with("*a=b;b=&c").modifies(0), 0);
    Due.same("a store of null", Make.with("*a=b;a=&c").modifies(0), Make.set(Make.C));
    PointerAnalyzer unreachable = Make.with("a=&b", "*a=c;x=&y;*x=a");
    Due.same("v of an unreachable function points nowhere", unreachable.modifies(1),
        Make.set(Make.B));
    Due.same("all fields", Make.with(Make.times("a=new", 8) + ";a=a+1;*a=b").modifies(0),
        (1L << 44) - (1L << 20));
  }

  private static void modifiesThrowsIndex() {
    Sentence.of(26, "Throws IndexOutOfBoundsException if there is no such function");
    PointerAnalyzer ends = modifiesEnds();
    for (int function : Make.outside(4)) {
      Due.noIndex("function " + function, () -> ends.modifies(function));
    }
  }

  private static void isRecursive() {
    isRecursiveAnswer();
    isRecursiveOfFunction();
    isRecursiveRange();
    isRecursiveThrowsIndex();
  }

  private static PointerAnalyzer isRecursiveRing() {
    return Make.with("a=f1(a)", "a=f2(a)", "a=f3(a)", "a=f0(a)");
  }

  private static void isRecursiveAnswer() {
    Sentence.of(28, "Returns whether a function can call itself, directly or by others.");
    PointerAnalyzer ring = isRecursiveRing();
    for (int function = 0; function < 4; function++) {
      Due.same("by three others", ring.isRecursive(function), true);
    }
    Make.body(ring, 3, "a=f1(a)");
    Due.same("a caller of the cycle", ring.isRecursive(0), false);
    Due.same("in the cycle", ring.isRecursive(3), true);
    Make.body(ring, 2, "a=f2(a)");
    Due.same("directly", ring.isRecursive(2), true);
    Due.same("not by a function that calls itself", ring.isRecursive(1), false);
    Due.same("no longer in the cycle", ring.isRecursive(3), false);
  }

  private static void isRecursiveOfFunction() {
    Sentence.of(28, "function: the function, 0 to 3");
    Due.same("the first", Make.with("a=f0(a)").isRecursive(0), true);
    Due.same("the last", Make.with("", "", "", "a=f3(a)").isRecursive(3), true);
  }

  private static void isRecursiveRange() {
    Sentence.of(28, "Returns whether it can.");
    for (int function = 0; function < 4; function++) {
      Due.same("no calls", new PointerAnalyzer().isRecursive(function), false);
      Due.same("no call of itself", Make.with("a=b;b=a;a=b+0").isRecursive(function), false);
    }
  }

  private static void isRecursiveThrowsIndex() {
    Sentence.of(28, "Throws IndexOutOfBoundsException if there is no such function");
    PointerAnalyzer ring = isRecursiveRing();
    for (int function : Make.outside(4)) {
      Due.noIndex("function " + function, () -> ring.isRecursive(function));
    }
  }

  private static void cycleOf() {
    cycleOfAnswer();
    cycleOfEdges();
    cycleOfVariable();
    cycleOfSet();
    cycleOfThrowsIndex();
  }

  private static PointerAnalyzer cycleOfEnds() {
    return Make.with("a=b;b=a", "", "", "x=y;y=x");
  }

  private static void cycleOfAnswer() {
    Sentence.of(29, "Returns the variables that are in a cycle with a variable.");
    PointerAnalyzer four = Make.with("a=b;b=c;c=d;d=a;x=a;b=y");
    for (int variable = 0; variable < 4; variable++) {
      Due.same("of four", four.cycleOf(variable), 15);
    }
    Due.same("behind the cycle", four.cycleOf(Make.x(0)), Make.set(Make.x(0)));
    Due.same("before the cycle", four.cycleOf(Make.y(0)), Make.set(Make.y(0)));
    Make.body(four, 0, "a=b");
    Due.same("by the new body", four.cycleOf(Make.A), 1);
  }

  private static void cycleOfEdges() {
    Sentence.of(29, "There is an edge from w to v for each copy \"v=w\" and, for each call "
        + "\"v=fn(w)\", from w to p and from r to v; two variables are in a cycle if there are "
        + "paths from each one to the other.");
    PointerAnalyzer call = Make.with("c=f3(a);a=c", "", "", "r=p");
    Due.same("by a call", call.cycleOf(Make.A), Make.set(Make.A, Make.C, Make.p(3), Make.r(3)));
    PointerAnalyzer noPath = Make.with("c=f3(a);a=c");
    Due.same("no edge from p to r", noPath.cycleOf(Make.A), 1);
    PointerAnalyzer back = Make.with("c=f3(a);c=a", "", "", "p=r");
    Due.same("no edge from p to w or v to r", back.cycleOf(Make.C), 4);
    PointerAnalyzer joined = Make.with(2, "b=f1(a);a=f1(b)", "r=p");
    Due.same("without contexts", joined.cycleOf(Make.A),
        Make.set(Make.A, Make.B, Make.p(1), Make.r(1)));
    Due.same("two cycles apart", Make.with("a=b;b=a;c=d;d=c;c=a").cycleOf(Make.A), 3);
    PointerAnalyzer others = Make.with("a=&b;b=&a;c=*d;d=*c;*x=y;*y=x;p=r+0;r=p+0;a=new");
    for (int variable = 0; variable < 20; variable++) {
      Due.same("no edge by other statements", others.cycleOf(variable), 1 << variable);
    }
  }

  private static void cycleOfVariable() {
    Sentence.of(29, "variable: the number of the variable, 0 to 19");
    PointerAnalyzer ends = cycleOfEnds();
    Due.same("the first", ends.cycleOf(0), 3);
    Due.same("the last", ends.cycleOf(19), 3 << 18);
  }

  private static void cycleOfSet() {
    Sentence.of(29, "Returns the set of variables, bit k for variable k; it contains the variable "
        + "itself.");
    PointerAnalyzer itself = Make.with("a=a");
    for (int variable = 0; variable < 20; variable++) {
      Due.same("no edge", new PointerAnalyzer().cycleOf(variable), 1 << variable);
      Due.same("an edge to itself", itself.cycleOf(variable), 1 << variable);
    }
    PointerAnalyzer all = Make.with("p=f1(y);y=x;x=r;r=p;a=b;b=c;c=d;d=y;y=a",
        "p=p;r=f2(y);y=x;x=p", "r=f3(y);y=x;x=p", "r=y;y=x;x=p");
    for (int variable = 0; variable < 20; variable++) {
      Due.same("all 20", all.cycleOf(variable), (1 << 20) - 1);
    }
  }

  private static void cycleOfThrowsIndex() {
    Sentence.of(29, "Throws IndexOutOfBoundsException if there is no such variable");
    PointerAnalyzer ends = cycleOfEnds();
    for (int variable : Make.outside(20)) {
      Due.noIndex("variable " + variable, () -> ends.cycleOf(variable));
    }
  }
}
