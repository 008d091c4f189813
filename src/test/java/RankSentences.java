/** The sentences on ranks, and those of the promises 20 to 22. */
final class RankSentences {
  private static final String[] TWO_CALLS = {"x=&a;y=&b;c=f1(x);d=f1(y)", "r=p"};

  /** By this, the variables 0 to 19 come to point to a, one in each round. */
  private static final String[] TWENTY = {"y=f1(y);y=x;x=r;r=p;p=d;d=c;c=b;b=a;a=&a",
      "y=x;y=f2(y);x=r;r=p", "r=p;x=r;y=x;y=f3(y)", "y=x;x=r;r=p"};

  private RankSentences() {
  }

  static void all() {
    whateverTheLimit();
    noFactsInRound0();
    byOneStatement();
    numberOfTheRound();
    lowestNumber();
    rank();
    reason();
    roundCount();
  }

  private static void same(PointerAnalyzer analyzer, int variable, int target, int rank,
      int reason) {
    String fact = variable + " to " + target;
    Due.same("rank of " + fact, analyzer.rank(variable, target), rank);
    Due.same("reason of " + fact, analyzer.reason(variable, target), reason);
  }

  // The description

  private static void whateverTheLimit() {
    Sentence.of(0, "The rank of a fact is defined for the limit 0, whatever the limit is.");
    PointerAnalyzer analyzer = Make.with(TWO_CALLS);
    for (int limit : new int[] {2, 1, 0, 1}) {
      analyzer.setLimit(limit);
      same(analyzer, Make.C, Make.A, 4, 2);
      same(analyzer, Make.C, Make.B, 4, 2);
      Due.same("a fact with the limit " + limit, (analyzer.pointsTo(Make.C) & 2) != 0,
          limit == 0);
    }
    PointerAnalyzer first = Make.with(2, TWO_CALLS);
    same(first, Make.D, Make.A, 4, 3);
  }

  private static void noFactsInRound0() {
    Sentence.of(0, "In round 0 there are no facts.");
    same(Make.with("a=&b"), Make.A, Make.B, 1, 0);
    same(Make.with("a=new"), Make.A, 20, 1, 0);
    same(Make.with("a=&b;c=a"), Make.C, Make.B, 2, 1);
  }

  private static void byOneStatement() {
    Sentence.of(0, "In each next round those facts are added that follow from the facts of the "
        + "round before by one statement, as told above, with any order of the statements.");
    PointerAnalyzer forth = Make.with("a=&a;b=a;c=b;d=c");
    PointerAnalyzer back = Make.with("d=c;c=b;b=a;a=&a");
    for (int variable = 0; variable < 4; variable++) {
      same(forth, variable, Make.A, variable + 1, variable);
      same(back, variable, Make.A, variable + 1, 3 - variable);
    }
    same(Make.with("a=&b;b=&c;x=*a"), Make.x(0), Make.C, 2, 2);
    same(Make.with("a=&b;x=*a;y=&c;b=y"), Make.x(0), Make.C, 3, 1);
    same(Make.with("a=&b;*a=x;x=&c"), Make.B, Make.C, 2, 1);
    same(Make.with("y=&b;a=y;*a=x;x=&c"), Make.B, Make.C, 3, 2);
    same(Make.with("a=new;a=a+1"), Make.A, 22, 3, 1);
    same(Make.with("a=new;b=a+2"), Make.B, 22, 2, 1);
    same(Make.with("a=&c;b=a+0"), Make.B, Make.C, 2, 1);
    PointerAnalyzer call = Make.with("x=&a;y=f1(x)", "r=p");
    same(call, Make.p(1), Make.A, 2, 1);
    same(call, Make.r(1), Make.A, 3, 2);
    same(call, Make.y(0), Make.A, 4, 1);
  }

  private static void numberOfTheRound() {
    Sentence.of(0, "The rank of a fact is the number of the round in which it is added.");
    PointerAnalyzer analyzer = Make.with("d=c;c=b;b=a;a=&x;d=a");
    same(analyzer, Make.D, Make.x(0), 2, 4);
    same(analyzer, Make.C, Make.x(0), 3, 1);
    PointerAnalyzer again = Make.with("a=b;b=a;a=&x");
    same(again, Make.A, Make.x(0), 1, 2);
    same(again, Make.B, Make.x(0), 2, 1);
  }

  private static void lowestNumber() {
    Sentence.of(0, "Its reason is the statement with the lowest number from which, with the facts "
        + "of the round before, it follows.");
    same(Make.with("a=b;a=&c;a=&c"), Make.A, Make.C, 1, 1);
    same(Make.with("d=a;d=b;a=&x;b=&x"), Make.D, Make.x(0), 2, 0);
    PointerAnalyzer later = Make.with("d=c;c=a;d=a;d=b;a=&x;b=&x");
    same(later, Make.D, Make.x(0), 2, 2);
    PointerAnalyzer functions = Make.with("x=f3(x);x=f1(x)", "a=&b", "a=&b", "a=&b");
    same(functions, Make.A, Make.B, 1, 2);
    Make.body(functions, 0, "x=f3(x)");
    same(functions, Make.A, Make.B, 1, 3);
    same(Make.with("a=f1(b);b=&c", "r=&c;p=&c"), Make.p(1), Make.C, 1, 3);
  }

  // Promises 20 to 22

  private interface Question {
    int ask(PointerAnalyzer analyzer, int variable, int target);
  }

  private static void refuses(Question question) {
    PointerAnalyzer none = Make.with("a=b");
    PointerAnalyzer one = Make.with("a=new");
    PointerAnalyzer eight = Make.with(Make.times("a=new", 8));
    for (int variable : Make.outside(20)) {
      Due.noIndex("variable " + variable, () -> question.ask(one, variable, 0));
    }
    for (int target : Make.outside(20)) {
      Due.noIndex("target without sites: " + target, () -> question.ask(none, 0, target));
    }
    for (int target : Make.outside(23)) {
      Due.noIndex("target with one site: " + target, () -> question.ask(one, 0, target));
    }
    for (int target : Make.outside(44)) {
      Due.noIndex("target with eight sites: " + target, () -> question.ask(eight, 0, target));
    }
  }

  private static void hasNoFact(Question question) {
    Due.noElement("the last target without sites", () -> question.ask(Make.with("a=&b"), 0, 19));
    Due.noElement("the last target of one site", () -> question.ask(Make.with("a=new"), 0, 22));
    Due.noElement("the last of all targets",
        () -> question.ask(Make.with(Make.times("a=new", 8)), 0, 43));
    Due.noElement("the last variable", () -> question.ask(Make.with("a=&b"), 19, 1));
    Due.noElement("the other way", () -> question.ask(Make.with("a=&b"), 1, 0));
    Due.noElement("an empty program", () -> question.ask(new PointerAnalyzer(), 0, 0));
  }

  private static void rank() {
    rankAnswer();
    rankOfVariable();
    rankOfTarget();
    rankRange();
    rankThrowsIndex();
    rankThrowsNoElement();
  }

  private static void rankAnswer() {
    Sentence.of(20, "Returns the rank of the fact that a variable points to a target.");
    PointerAnalyzer twenty = Make.with(TWENTY);
    for (int variable = 0; variable < 20; variable++) {
      Due.same("variable " + variable, twenty.rank(variable, 0), variable + 1);
    }
  }

  private static void rankOfVariable() {
    Sentence.of(20, "variable: the number of the variable, 0 to 19");
    PointerAnalyzer twenty = Make.with(TWENTY);
    Due.same("the last", twenty.rank(19, 0), 20);
    Due.same("the first", Make.with("a=b;b=&d").rank(0, 3), 2);
  }

  private static void rankOfTarget() {
    Sentence.of(20, "target: the code of the target");
    PointerAnalyzer eight = Make.with(Make.times("a=new", 7) + ";b=new;c=b+2;c=&a;x=f3(x)", "",
        "", "b=&y");
    Due.same("the first variable", eight.rank(Make.C, 0), 1);
    Due.same("the last variable", eight.rank(Make.B, 19), 1);
    Due.same("the first field", eight.rank(Make.A, 20), 1);
    Due.same("the last field", eight.rank(Make.C, 43), 2);
  }

  private static void rankRange() {
    Sentence.of(20, "Returns the rank, from 1.");
    Due.same("the least", Make.with("a=&b").rank(0, 1), 1);
  }

  private static void rankThrowsIndex() {
    Sentence.of(20, "Throws IndexOutOfBoundsException if there is no such variable or target");
    refuses(PointerAnalyzer::rank);
  }

  private static void rankThrowsNoElement() {
    Sentence.of(20, "Throws NoSuchElementException if there is no such fact with the limit 0");
    hasNoFact(PointerAnalyzer::rank);
    PointerAnalyzer unreachable = Make.with("", "a=&b;x=&y");
    Due.noElement("a global in an unreachable function", () -> unreachable.rank(0, 1));
    Due.noElement("a local in an unreachable function",
        () -> unreachable.rank(Make.x(1), Make.y(1)));
    Make.body(unreachable, 0, "a=f1(a)");
    Due.same("now reachable", unreachable.rank(0, 1), 1);
    Due.noElement("with a limit", () -> Make.with(2, TWO_CALLS).rank(Make.C, Make.D));
  }

  private static void reason() {
    reasonAnswer();
    reasonOfVariable();
    reasonOfTarget();
    reasonRange();
    reasonThrowsIndex();
    reasonThrowsNoElement();
  }

  private static void reasonAnswer() {
    Sentence.of(21, "Returns the reason of the fact that a variable points to a target.");
    PointerAnalyzer moved = Make.with("a=f1(b)", "b=c;c=&d");
    Due.same("b", moved.reason(Make.B, Make.D), 1);
    Make.body(moved, 0, "a=b;a=b;a=f1(b)");
    Due.same("by its new number", moved.reason(Make.B, Make.D), 3);
  }

  private static void reasonOfVariable() {
    Sentence.of(21, "variable: the number of the variable, 0 to 19");
    PointerAnalyzer twenty = Make.with(TWENTY);
    Due.same("the first", twenty.reason(0, 0), 8);
    Due.same("the last", twenty.reason(19, 0), 17);
  }

  private static void reasonOfTarget() {
    Sentence.of(21, "target: the code of the target");
    PointerAnalyzer eight = Make.with(Make.times("a=new", 7) + ";b=new;c=b+2;c=&a;x=f3(x)", "",
        "", "b=&y");
    Due.same("the first variable", eight.reason(Make.C, 0), 9);
    Due.same("the last variable", eight.reason(Make.B, 19), 11);
    Due.same("the first field", eight.reason(Make.A, 20), 0);
    Due.same("the last field", eight.reason(Make.C, 43), 8);
  }

  private static void reasonRange() {
    Sentence.of(21, "Returns the number of the statement.");
    Due.same("the first", Make.with("a=&b").reason(0, 1), 0);
    Due.same("the last of 48", Make.with(Make.times("c=d", 11) + ";c=f3(d)",
        Make.times("c=d", 12), Make.times("c=d", 12), Make.times("c=d", 11) + ";a=&b").reason(0, 1),
        47);
  }

  private static void reasonThrowsIndex() {
    Sentence.of(21, "Throws IndexOutOfBoundsException if there is no such variable or target");
    refuses(PointerAnalyzer::reason);
  }

  private static void reasonThrowsNoElement() {
    Sentence.of(21, "Throws NoSuchElementException if there is no such fact with the limit 0");
    hasNoFact(PointerAnalyzer::reason);
    PointerAnalyzer unreachable = Make.with("", "a=&b");
    Due.noElement("in an unreachable function", () -> unreachable.reason(0, 1));
  }

  private static void roundCount() {
    roundCountAnswer();
    roundCountRange();
  }

  private static void roundCountAnswer() {
    Sentence.of(22, "Returns the number of rounds in which facts are added, with the limit 0.");
    PointerAnalyzer apart = Make.with("y=&b;c=f1(x);x=f1(y)", "r=p");
    for (int limit = 0; limit <= 2; limit++) {
      apart.setLimit(limit);
      // y, then p, r, and c and x by the mixed results
      Due.same("limit " + limit, apart.roundCount(), 4);
    }
    Due.same("a field comes last", Make.with("*a=b;b=c;c=&d;a=new").roundCount(), 3);
    Due.same("a field that nobody reads", Make.with("a=new;*a=a").roundCount(), 2);
  }

  private static void roundCountRange() {
    Sentence.of(22, "Returns the greatest rank, 0 if there are no facts.");
    Due.same("no statements", new PointerAnalyzer().roundCount(), 0);
    Due.same("no facts", Make.with("a=b;*b=a;a=*b;a=f1(a)", "r=p").roundCount(), 0);
    Due.same("no reachable facts", Make.with("", "a=&b").roundCount(), 0);
    Due.same("one", Make.with("a=&b;b=&a;a=a").roundCount(), 1);
    Due.same("twenty", Make.with(TWENTY).roundCount(), 20);
    PointerAnalyzer fewer = Make.with(TWENTY);
    Due.same("twenty", fewer.roundCount(), 20);
    Make.body(fewer, 3, "");
    Due.same("by the new body", fewer.roundCount(), 17);
    Make.body(fewer, 0, "");
    Due.same("without facts again", fewer.roundCount(), 0);
  }
}
