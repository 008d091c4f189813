import java.util.NoSuchElementException;

/** Sentences that hold for every promise: how long an object is used, and refused calls. */
final class GeneralSentences {
  private static final Class<IndexOutOfBoundsException> INDEX = IndexOutOfBoundsException.class;
  private static final Class<IllegalArgumentException> ARGUMENT = IllegalArgumentException.class;
  private static final Class<IllegalStateException> STATE = IllegalStateException.class;
  private static final Class<NoSuchElementException> ELEMENT = NoSuchElementException.class;
  private static final Class<ArithmeticException> QUOTIENT = ArithmeticException.class;

  private GeneralSentences() {
  }

  static void all() {
    lastOf512Calls();
    refusedWithIndices();
    refusedWithoutIndices();
    refusedTexts();
    orderOfExceptions();
  }

  private static void lastOf512Calls() {
    Sentence.of(0, "An object is used for at most 512 calls after it has been made");
    Due.same("pointsTo", after511().pointsTo(Make.C), 2);
    Due.same("rank", after511().rank(Make.C, Make.B), 2);
    Due.same("reach", after511().reach(Make.A), 2);
    Due.same("unifiedTargets", after511().unifiedTargets(Make.C), 2);
    Due.same("cycleOf", after511().cycleOf(Make.C), 4);
    Due.same("run", after511().run(), 2);
    Due.same("appendCharacter", after511().appendCharacter('a'), 1);
    Due.same("setBody", after511().setBody(3), 0);
    Due.same("setLimit", after511().setLimit(1), 2);
    Due.noIndex("pointsTo", () -> after511().pointsTo(20));
    PointerAnalyzer runs = Make.with("a=f0(a);b=f0(b);c=new;d=new");
    for (int call = 29; call < 512; call++) {
      Due.same("run as call " + call, runs.run(), 200);
    }
    Due.same("run as call 512", runs.run(), 200);
    PointerAnalyzer refused = new PointerAnalyzer();
    for (int call = 1; call < 512; call++) {
      Due.noIndex("kind", () -> refused.kind(0));
    }
    Due.same("after 511 refused calls", refused.statementCount(), 0);
  }

  /** "a=&b;c=a" and the limit 2, by 511 calls. */
  private static PointerAnalyzer after511() {
    PointerAnalyzer analyzer = Make.with(2, "a=&b;c=a");
    analyzer.save();
    for (int call = 12; call <= 511; call++) {
      switch (call % 4) {
        case 0 -> analyzer.run();
        case 1 -> analyzer.setLimit(call / 4 % 3);
        case 2 -> analyzer.factCount();
        default -> analyzer.restore();
      }
    }
    return analyzer;
  }

  private static void keeps(String what, Class<? extends RuntimeException> due,
      Refused.Call call) {
    Refused.changesNothing(what, due, Refused::fullPast, call);
  }

  private static void refusedWithIndices() {
    Sentence.of(0, "A call that throws an exception leaves the state unchanged");
    keeps("setBody", INDEX, analyzer -> analyzer.setBody(4));
    keeps("kind", INDEX, analyzer -> analyzer.kind(12));
    keeps("functionOf", INDEX, analyzer -> analyzer.functionOf(-1));
    keeps("contextCount", INDEX, analyzer -> analyzer.contextCount(4));
    keeps("contextLength, function", INDEX, analyzer -> analyzer.contextLength(4, 0));
    keeps("contextLength, context", INDEX, analyzer -> analyzer.contextLength(3, 0));
    keeps("contextCall, function", INDEX, analyzer -> analyzer.contextCall(-1, 0, 0));
    keeps("contextCall, context", INDEX, analyzer -> analyzer.contextCall(0, 1, 0));
    keeps("contextCall, position", INDEX, analyzer -> analyzer.contextCall(0, 0, 0));
    keeps("pointsTo", INDEX, analyzer -> analyzer.pointsTo(20));
    keeps("pointsToIn, variable", INDEX, analyzer -> analyzer.pointsToIn(20, 0));
    keeps("pointsToIn, context", INDEX, analyzer -> analyzer.pointsToIn(0, 1));
    keeps("fieldPointsTo, site", INDEX, analyzer -> analyzer.fieldPointsTo(2, 0));
    keeps("fieldPointsTo, field", INDEX, analyzer -> analyzer.fieldPointsTo(0, 3));
    keeps("mayAlias, first", INDEX, analyzer -> analyzer.mayAlias(20, 0));
    keeps("mayAlias, second", INDEX, analyzer -> analyzer.mayAlias(0, 20));
    keeps("reach", INDEX, analyzer -> analyzer.reach(20));
    keeps("rank, variable", INDEX, analyzer -> analyzer.rank(20, 0));
    keeps("rank, target", INDEX, analyzer -> analyzer.rank(0, 26));
    keeps("reason, variable", INDEX, analyzer -> analyzer.reason(20, 0));
    keeps("reason, target", INDEX, analyzer -> analyzer.reason(0, 26));
    keeps("unifiedTargets", INDEX, analyzer -> analyzer.unifiedTargets(20));
    keeps("areUnified, first", INDEX, analyzer -> analyzer.areUnified(20, 0));
    keeps("areUnified, second", INDEX, analyzer -> analyzer.areUnified(0, 20));
    keeps("modifies", INDEX, analyzer -> analyzer.modifies(4));
    keeps("isReachable", INDEX, analyzer -> analyzer.isReachable(4));
    keeps("isRecursive", INDEX, analyzer -> analyzer.isRecursive(4));
    keeps("cycleOf", INDEX, analyzer -> analyzer.cycleOf(20));
    keeps("observed", INDEX, analyzer -> analyzer.observed(20));
    keeps("fieldObserved, site", INDEX, analyzer -> analyzer.fieldObserved(2, 0));
    keeps("fieldObserved, field", INDEX, analyzer -> analyzer.fieldObserved(0, -1));
  }

  private static void refusedWithoutIndices() {
    Sentence.of(0, "A call that throws an exception leaves the state unchanged");
    keeps("appendCharacter", ARGUMENT, analyzer -> analyzer.appendCharacter(32));
    keeps("setLimit", ARGUMENT, analyzer -> analyzer.setLimit(3));
    keeps("setLimit", ARGUMENT, analyzer -> analyzer.setLimit(-1));
    keeps("rank", ELEMENT, analyzer -> analyzer.rank(Make.A, Make.A));
    keeps("reason", ELEMENT, analyzer -> analyzer.reason(Make.A, Make.A));
    Refused.changesNothing("appendCharacter to a full text", STATE, Refused::pastWithFullText,
        analyzer -> analyzer.appendCharacter('a'));
    Refused.changesNothing("precision", QUOTIENT, Refused::pastWithoutTargets,
        PointerAnalyzer::precision);
    Refused.changesNothing("averageTargets", QUOTIENT, Refused::pastWithoutTargets,
        PointerAnalyzer::averageTargets);
    Refused.changesNothing("restore", STATE, Refused::pastWithoutSave, PointerAnalyzer::restore);
  }

  private static void refusedTexts() {
    Sentence.of(0, "except that the text and its fault position are treated as described");
    refusedText("no body text", ARGUMENT, "a=&a;*b=a;", 10);
    refusedText("a fault behind 12 statements", ARGUMENT, Make.times("b=&a", 12) + "!", 59);
    refusedText("13 statements", STATE, Make.times("b=&a", 13), -1);
    refusedText("9 allocations", STATE, Make.times("b=new", 9), -1);
    refusedText("6 calls", STATE, Make.times("b=f0(b)", 6), -1);
  }

  /** The text is read for each function, and then gone; of the rest nothing is changed. */
  private static void refusedText(String what, Class<? extends RuntimeException> due, String text,
      int fault) {
    for (int each = 0; each < 4; each++) {
      int function = each;
      PointerAnalyzer refusing = withEmptyText();
      PointerAnalyzer other = withEmptyText();
      Make.type(refusing, text);
      Due.thrown(what, due, () -> refusing.setBody(function));
      Due.same(what + ", faultPosition", refusing.faultPosition(), fault);
      Due.equal(what + ", answers", Answers.exceptFaultPosition(refusing),
          Answers.exceptFaultPosition(other));
      Due.same(what + ", the text is empty", refusing.appendCharacter('d'), 1);
      refusing.restore();
      other.restore();
      Due.equal(what + ", what is saved", Answers.exceptFaultPosition(refusing),
          Answers.exceptFaultPosition(other));
    }
  }

  private static PointerAnalyzer withEmptyText() {
    PointerAnalyzer analyzer = Make.with(1, "a=&b", "x=new", "", "y=x");
    analyzer.save();
    Make.body(analyzer, 0, "a=new;b=f1(a);*a=b;*c=a");
    Make.body(analyzer, 1, "r=p+1");
    Make.body(analyzer, 2, "x=f1(d)");
    analyzer.setLimit(2);
    analyzer.run();
    return analyzer;
  }

  private static void orderOfExceptions() {
    Sentence.of(0, "they are checked in the order in which they are listed");
    PointerAnalyzer full = Refused.pastWithFullText();
    Due.noArgument("appendCharacter: a wrong one to a full text", () -> full.appendCharacter(127));
    Due.noState("appendCharacter: a right one to a full text", () -> full.appendCharacter(126));

    PointerAnalyzer texts = new PointerAnalyzer();
    Make.type(texts, Make.times("a=b", 13) + ";");
    Due.noIndex("setBody: no function, a fault and too many", () -> texts.setBody(4));
    Due.noArgument("setBody: a fault and too many", () -> texts.setBody(0));
    Make.type(texts, Make.times("a=b", 13));
    Due.noIndex("setBody: no function and too many", () -> texts.setBody(-1));
    Due.noState("setBody: too many", () -> texts.setBody(0));
    Make.type(texts, Make.times("a=new", 9) + "!");
    Due.noArgument("setBody: a fault and 9 allocations", () -> texts.setBody(0));
    Make.type(texts, Make.times("a=f1(b)", 6) + "+");
    Due.noArgument("setBody: a fault and 6 calls", () -> texts.setBody(0));

    PointerAnalyzer facts = Make.with("a=&b");
    Due.noIndex("rank: no variable and no fact", () -> facts.rank(20, 1));
    Due.noIndex("rank: no target and no fact", () -> facts.rank(0, 20));
    Due.noElement("rank: no fact", () -> facts.rank(0, 0));
    Due.noIndex("reason: no variable and no fact", () -> facts.reason(20, 1));
    Due.noIndex("reason: no target and no fact", () -> facts.reason(0, 20));
    Due.noElement("reason: no fact", () -> facts.reason(0, 0));
  }
}
