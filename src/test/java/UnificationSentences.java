/** The sentences on the unification analysis, and those of the promises 23 to 25. */
final class UnificationSentences {
  private UnificationSentences() {
  }

  static void all() {
    termsOfTerms();
    smallestCongruence();
    unreachableFunctions();
    eachStatement();
    calls();
    unifiedTargets();
    areUnified();
    unifiedClasses();
  }

  // The description

  private static void termsOfTerms() {
    Sentence.of(0, "Consider terms that are variables, sites, and T(t) for each term t.");
    PointerAnalyzer deep = Make.with("b=*a;c=*b;d=*c;x=*d;a=&y;y=&p;p=&r;r=&y");
    // T(b) = T(y) = p, T(c) = T(p) = r, T(d) = T(r) = y, and T(x) = T(y) = p
    Due.same("T(b)", deep.unifiedTargets(Make.B), Make.set(Make.p(0)));
    Due.same("T(c)", deep.unifiedTargets(Make.C), Make.set(Make.r(0)));
    Due.same("T(d)", deep.unifiedTargets(Make.D), Make.set(Make.y(0)));
    Due.same("T(x)", deep.unifiedTargets(Make.x(0)), Make.set(Make.p(0)));
    PointerAnalyzer ofSite = Make.with("a=new;*a=b;b=&c;d=*a");
    Due.same("T of a site", ofSite.unifiedTargets(Make.D), Make.set(Make.C));
    PointerAnalyzer unnamed = Make.with("*a=b;*b=c;c=&d;x=*a;y=*x");
    Due.same("T of terms that no variable is", unnamed.unifiedTargets(Make.y(0)),
        Make.set(Make.D));
  }

  private static void smallestCongruence() {
    Sentence.of(0, "The unification is the smallest congruence of the terms, that is, an "
        + "equivalence relation such that T(s) and T(t) are equivalent if s and t are");
    PointerAnalyzer analyzer = Make.with("a=&b;a=&c;b=&x;c=&y;x=&p;y=&r");
    Due.same("b and c", analyzer.areUnified(Make.B, Make.C), true);
    Due.same("so T(b) and T(c)", analyzer.areUnified(Make.x(0), Make.y(0)), true);
    Due.same("so T(x) and T(y)", analyzer.areUnified(Make.p(0), Make.r(0)), true);
    Due.same("not s and t by T(s) and T(t)",
        Make.with("a=&c;b=&c;x=a;x=b").areUnified(Make.A, Make.B), false);
    Due.same("nothing without a reason", Make.with("a=b;c=&d").unifiedClasses(), 20);
    PointerAnalyzer before = Make.with("b=&x;c=&y;a=&b;a=&c");
    Due.same("by an earlier statement, too", before.areUnified(Make.x(0), Make.y(0)), true);
    PointerAnalyzer loop = Make.with("a=&a;a=&b;b=&c");
    Due.same("a = T(a) = b, so c = T(b) = a", loop.areUnified(Make.A, Make.C), true);
  }

  private static void unreachableFunctions() {
    Sentence.of(0, "for all statements of all bodies, also of unreachable functions");
    for (int function = 1; function < 4; function++) {
      PointerAnalyzer analyzer = new PointerAnalyzer();
      Make.body(analyzer, function, "a=&b;y=new;c=f" + function + "(a)");
      Due.same("address", analyzer.unifiedTargets(Make.A), Make.set(Make.B));
      Due.same("allocation", analyzer.unifiedTargets(Make.y(function)), 7L << 20);
      Due.same("call", analyzer.unifiedTargets(Make.p(function)), Make.set(Make.B));
      Due.same("without facts", analyzer.factCount(), 0);
    }
    PointerAnalyzer last = Make.with(Make.times("c=d", 12), Make.times("c=d", 12),
        Make.times("c=d", 12), Make.times("c=d", 11) + ";a=&b");
    Due.same("the last statement of 48", last.unifiedTargets(Make.A), Make.set(Make.B));
  }

  private static void eachStatement() {
    addresses();
    copiesAndOffsets();
    loads();
    stores();
    allocations();
  }

  private static void addresses() {
    Sentence.of(0, "\"v=&w\": T(v) is equivalent to w.");
    Due.same("w", Make.with("a=&b").unifiedTargets(Make.A), Make.set(Make.B));
    Due.same("itself", Make.with("a=&a").unifiedTargets(Make.A), Make.set(Make.A));
    Due.same("not the other way", Make.with("a=&b").unifiedTargets(Make.B), 0);
  }

  private static void copiesAndOffsets() {
    Sentence.of(0, "\"v=w\" and \"v=w+n\": T(v) is equivalent to T(w).");
    for (String right : new String[] {"b", "b+0", "b+1", "b+2"}) {
      PointerAnalyzer forth = Make.with("b=&c;a=" + right);
      Due.same("T(a) by " + right, forth.unifiedTargets(Make.A), Make.set(Make.C));
      PointerAnalyzer back = Make.with("a=&c;a=" + right);
      Due.same("T(b) by " + right, back.unifiedTargets(Make.B), Make.set(Make.C));
      Due.same("but not a and b", back.areUnified(Make.A, Make.B), false);
    }
    Due.same("a site + 1", Make.with("a=new;b=a+1").unifiedTargets(Make.B), 7L << 20);
  }

  private static void loads() {
    Sentence.of(0, "\"v=*w\": T(v) is equivalent to T(T(w)).");
    Due.same("forth", Make.with("b=&c;c=&d;a=*b").unifiedTargets(Make.A), Make.set(Make.D));
    Due.same("back", Make.with("b=&c;a=&d;a=*b").unifiedTargets(Make.C), Make.set(Make.D));
    Due.same("not T(b)", Make.with("b=&c;a=*b").unifiedTargets(Make.A), 0);
  }

  private static void stores() {
    Sentence.of(0, "\"*v=w\": T(T(v)) is equivalent to T(w).");
    Due.same("forth", Make.with("a=&c;b=&d;*a=b").unifiedTargets(Make.C), Make.set(Make.D));
    Due.same("back", Make.with("a=&c;c=&d;*a=b").unifiedTargets(Make.B), Make.set(Make.D));
    Due.same("not T(a)", Make.with("b=&d;*a=b").unifiedTargets(Make.A), 0);
  }

  private static void allocations() {
    Sentence.of(0, "\"v=new\": T(v) is equivalent to the site.");
    PointerAnalyzer two = Make.with("a=new;b=new;a=new");
    Due.same("two sites", two.unifiedTargets(Make.A), 7L << 20 | 7L << 26);
    Due.same("the other", two.unifiedTargets(Make.B), 7L << 23);
  }

  private static void calls() {
    Sentence.of(0, "\"v=fn(w)\": T(p) is equivalent to T(w), and T(v) is equivalent to T(r), for p "
        + "and r of the function.");
    PointerAnalyzer forth = Make.with("a=&b;c=f3(a)", "", "", "r=&x");
    Due.same("T(p) by T(w)", forth.unifiedTargets(Make.p(3)), Make.set(Make.B));
    Due.same("T(v) by T(r)", forth.unifiedTargets(Make.C), Make.set(Make.x(3)));
    PointerAnalyzer back = Make.with("c=&b;c=f3(a)", "", "", "p=&x");
    Due.same("T(w) by T(p)", back.unifiedTargets(Make.A), Make.set(Make.x(3)));
    Due.same("T(r) by T(v)", back.unifiedTargets(Make.r(3)), Make.set(Make.B));
    Due.same("not T(v) by T(p)", back.unifiedTargets(Make.C), Make.set(Make.B));
    PointerAnalyzer twice = Make.with(2, "a=&b;c=&d;x=f1(a);y=f1(c)", "r=&y");
    Due.same("whatever the limit", twice.areUnified(Make.B, Make.D), true);
    Due.same("both results", twice.unifiedTargets(Make.x(0)), Make.set(Make.y(1)));
  }

  // Promises 23 to 25

  private static void unifiedTargets() {
    unifiedTargetsAnswer();
    unifiedTargetsOfVariable();
    unifiedTargetsSet();
    unifiedTargetsThrowsIndex();
  }

  private static PointerAnalyzer unifiedTargetsEnds() {
    return Make.with("a=&d", "", "", "y=&x");
  }

  private static void unifiedTargetsAnswer() {
    Sentence.of(23, "a variable w belongs to them if w is equivalent to T(variable), and all "
        + "fields of a site belong to them if the site is.");
    Due.same("w", Make.with("a=&b;a=&x").unifiedTargets(Make.A), Make.set(Make.B, Make.x(0)));
    Due.same("all fields", Make.with("a=new").unifiedTargets(Make.A), 7L << 20);
    Due.same("not by field 2 alone", Make.with("a=new;b=a+2").unifiedTargets(Make.B), 7L << 20);
    Due.same("both", Make.with("a=new;a=&b").unifiedTargets(Make.A), 7L << 20 | 2);
  }

  private static void unifiedTargetsOfVariable() {
    Sentence.of(23, "variable: the number of the variable, 0 to 19");
    PointerAnalyzer ends = unifiedTargetsEnds();
    Due.same("the first", ends.unifiedTargets(0), Make.set(Make.D));
    Due.same("the last", ends.unifiedTargets(19), Make.set(Make.x(3)));
  }

  private static void unifiedTargetsSet() {
    Sentence.of(23, "Returns the set of targets.");
    for (int variable = 0; variable < 20; variable++) {
      Due.same("none", new PointerAnalyzer().unifiedTargets(variable), 0);
    }
    Due.same("all 44", allUnified().unifiedTargets(Make.A), (1L << 44) - 1);
    Due.same("all 44 of the last", allUnified().unifiedTargets(19), (1L << 44) - 1);
    PointerAnalyzer eight = Make.with(Make.times("a=new", 7) + ";b=new");
    Due.same("the last site", eight.unifiedTargets(Make.B), 7L << 41);
    Make.body(eight, 0, "a=new");
    Due.same("by the new body", eight.unifiedTargets(Make.B), 0);
  }

  private static void unifiedTargetsThrowsIndex() {
    Sentence.of(23, "Throws IndexOutOfBoundsException if there is no such variable");
    PointerAnalyzer ends = unifiedTargetsEnds();
    for (int variable : Make.outside(20)) {
      Due.noIndex("variable " + variable, () -> ends.unifiedTargets(variable));
    }
    for (int variable = 20; variable < 28; variable++) {
      int site = variable;
      Due.noIndex("a site is no variable", () -> allUnified().unifiedTargets(site));
    }
  }

  /** All variables and all of eight sites are one class. */
  private static PointerAnalyzer allUnified() {
    return Make.with("a=&p;a=&r;a=&x;a=&y;a=&a;a=&b;a=&c;a=&d", "a=&p;a=&r;a=&x;a=&y",
        "a=&p;a=&r;a=&x;a=&y", "a=&p;a=&r;a=&x;a=&y;" + Make.times("b=new", 8));
  }

  private static void areUnified() {
    areUnifiedAnswer();
    areUnifiedOfFirst();
    areUnifiedOfSecond();
    areUnifiedRange();
    areUnifiedThrowsIndex();
  }

  private static PointerAnalyzer areUnifiedEnds() {
    return Make.with("b=&a", "", "", "b=&y");
  }

  private static void areUnifiedAnswer() {
    Sentence.of(24, "Returns whether two variables are equivalent by the unification analysis.");
    PointerAnalyzer analyzer = Make.with("a=&b;a=&c;x=&b;d=b");
    Due.same("by two addresses", analyzer.areUnified(Make.B, Make.C), true);
    Due.same("the other way", analyzer.areUnified(Make.C, Make.B), true);
    Due.same("not by equal targets", analyzer.areUnified(Make.A, Make.x(0)), false);
    Due.same("not by a copy", analyzer.areUnified(Make.D, Make.B), false);
    Make.body(analyzer, 0, "a=&b");
    Due.same("by the new body", analyzer.areUnified(Make.B, Make.C), false);
    PointerAnalyzer before = allUnified();
    Due.same("all of them", before.areUnified(0, 19), true);
    for (int function = 0; function < 4; function++) {
      Make.body(before, function, "");
    }
    for (int variable = 1; variable < 20; variable++) {
      Due.same("none of them", before.areUnified(variable, variable - 1), false);
      Due.same("no targets", before.unifiedTargets(variable - 1), 0);
    }
  }

  private static void areUnifiedOfFirst() {
    Sentence.of(24, "first: a variable");
    PointerAnalyzer ends = areUnifiedEnds();
    Due.same("the last", ends.areUnified(19, 0), true);
  }

  private static void areUnifiedOfSecond() {
    Sentence.of(24, "second: a variable, possibly the same");
    PointerAnalyzer ends = areUnifiedEnds();
    Due.same("the last", ends.areUnified(0, 19), true);
    for (int variable = 0; variable < 20; variable++) {
      Due.same("the same", ends.areUnified(variable, variable), true);
    }
  }

  private static void areUnifiedRange() {
    Sentence.of(24, "Returns whether they are equivalent.");
    for (int variable = 1; variable < 20; variable++) {
      Due.same("all", allUnified().areUnified(0, variable), true);
      Due.same("none", new PointerAnalyzer().areUnified(variable, variable - 1), false);
    }
  }

  private static void areUnifiedThrowsIndex() {
    Sentence.of(24, "Throws IndexOutOfBoundsException if one of the variables does not exist");
    PointerAnalyzer ends = areUnifiedEnds();
    for (int variable : Make.outside(20)) {
      Due.noIndex("first " + variable, () -> ends.areUnified(variable, 0));
      Due.noIndex("second " + variable, () -> ends.areUnified(0, variable));
      Due.noIndex("the same " + variable, () -> ends.areUnified(variable, variable));
    }
  }

  private static void unifiedClasses() {
    unifiedClassesAnswer();
    unifiedClassesRange();
  }

  private static void unifiedClassesAnswer() {
    Sentence.of(25, "Returns the number of classes of equivalent variables and sites by the "
        + "unification analysis.");
    PointerAnalyzer analyzer = Make.with("a=&b;a=&c;a=new");
    Due.same("b, c and a site are one", analyzer.unifiedClasses(), 19);
    Make.body(analyzer, 0, "a=&b");
    Due.same("by the new body", analyzer.unifiedClasses(), 20);
  }

  private static void unifiedClassesRange() {
    Sentence.of(25, "Returns the number of classes that contain a variable or a site.");
    Due.same("without statements", new PointerAnalyzer().unifiedClasses(), 20);
    Due.same("not T(a) without a variable in it", Make.with("a=b;c=*d").unifiedClasses(), 20);
    Due.same("a class of a site alone", Make.with("a=new").unifiedClasses(), 21);
    Due.same("a class of two sites", Make.with("a=new;a=new").unifiedClasses(), 21);
    PointerAnalyzer most = Make.with("a=new;b=new;c=new;d=new;p=new;r=new;x=new;y=new");
    Due.same("the most", most.unifiedClasses(), 28);
    Due.same("the fewest", allUnified().unifiedClasses(), 1);
    Due.same("the last two variables", Make.with("", "", "", "a=&x;a=&y").unifiedClasses(), 19);
    Due.same("the first two variables", Make.with("c=&a;c=&b").unifiedClasses(), 19);
    Due.same("the last variable and a site", Make.with("", "", "", "a=&y;a=new").unifiedClasses(),
        20);
  }
}
