/** The sentences of the promises 35 to 38: precision, averages, and what is saved. */
final class FigureSentences {
  private static final String[] TWO_CALLS = {"x=&a;y=&b;c=f1(x);d=f1(y)", "r=p"};

  private FigureSentences() {
  }

  static void all() {
    precision();
    averageTargets();
    save();
    restore();
    neitherTextNorFault();
  }

  private static void precision() {
    precisionAnswer();
    precisionRange();
    precisionThrowsNoQuotient();
  }

  private static void precisionAnswer() {
    Sentence.of(35, "the sum of the numbers of targets of pointsTo over all variables, divided by "
        + "the same sum for unifiedTargets, both converted to double.");
    Due.exact("1 by 1", Make.with("a=&b").precision(), 1.0);
    Due.exact("1 by 3", Make.with("a=new").precision(), 1.0 / 3.0);
    Due.exact("1 by 2", Make.with("a=&b;a=c").precision(), 0.5);
    Due.exact("0 by 1", Make.with("", "a=&b").precision(), 0.0);
    Due.exact("fields do not count", Make.with("a=new;*a=a").precision(), 1.0 / 3.0);
    Due.exact("8 by 12", Make.with(1, TWO_CALLS).precision(), 8.0 / 12.0);
    Due.exact("the last variable", Make.with("x=f3(x)", "", "", "y=&a;y=b").precision(), 0.5);
    // Eight sites in a, of which field 0 is known, and what they share with b and c
    Due.exact("17 by 49", Make.with(Make.times("a=new", 8) + ";b=a;c=&a").precision(), 17.0 / 49.0);
  }

  private static void precisionRange() {
    Sentence.of(35, "Returns the quotient.");
    PointerAnalyzer analyzer = Make.with(TWO_CALLS);
    Due.exact("limit 0", analyzer.precision(), 10.0 / 12.0);
    analyzer.setLimit(2);
    Due.exact("limit 2", analyzer.precision(), 8.0 / 12.0);
    Make.body(analyzer, 1, "");
    Due.exact("by the new body", analyzer.precision(), 4.0 / 6.0);
  }

  private static void precisionThrowsNoQuotient() {
    Sentence.of(35, "Throws ArithmeticException if the second sum is 0");
    PointerAnalyzer analyzer = Make.with(TWO_CALLS);
    Due.noQuotient("no statements", () -> new PointerAnalyzer().precision());
    Due.noQuotient("no targets",
        () -> Make.with("a=b;*c=d;x=*y;p=r+1;a=f1(b)", "r=p").precision());
    Make.body(analyzer, 0, "");
    Due.noQuotient("no longer", analyzer::precision);
    Make.body(analyzer, 2, "a=&b");
    Due.exact("an unreachable one is enough", analyzer.precision(), 0.0);
  }

  private static void averageTargets() {
    averageTargetsAnswer();
    averageTargetsRange();
    averageTargetsThrowsNoQuotient();
  }

  private static void averageTargetsAnswer() {
    Sentence.of(36, "Returns the number of targets of pointsTo, added up over all variables that "
        + "point to at least one target, divided by the number of these variables, both converted "
        + "to float.");
    Due.exact("1 by 1", Make.with("a=&b").averageTargets(), 1.0f);
    Due.exact("3 by 2", Make.with("a=&b;a=&c;b=&d").averageTargets(), 1.5f);
    Due.exact("4 by 3", Make.with("a=&b;b=&d;c=a;c=b").averageTargets(), 4.0f / 3.0f);
    Due.exact("fields do not count", Make.with("a=new;*a=a;*a=b;b=&a;b=&b").averageTargets(), 1.5f);
    Due.exact("all fields", Make.with(Make.times("a=new", 8) + ";a=a+1").averageTargets(), 24.0f);
    Due.exact("the last variable", Make.with("x=f3(x)", "", "", "y=&a;y=&b").averageTargets(), 2f);
  }

  private static void averageTargetsRange() {
    Sentence.of(36, "Returns the average.");
    PointerAnalyzer analyzer = Make.with(TWO_CALLS);
    Due.exact("limit 0", analyzer.averageTargets(), 10.0f / 6.0f);
    analyzer.setLimit(1);
    Due.exact("limit 1, by variables and not by cells", analyzer.averageTargets(), 8.0f / 6.0f);
    Make.body(analyzer, 1, "");
    Due.exact("by the new body", analyzer.averageTargets(), 4.0f / 3.0f);
  }

  private static void averageTargetsThrowsNoQuotient() {
    Sentence.of(36, "Throws ArithmeticException if no variable points to a target");
    PointerAnalyzer analyzer = Make.with(TWO_CALLS);
    Due.noQuotient("no statements", () -> new PointerAnalyzer().averageTargets());
    Due.noQuotient("no facts", () -> Make.with("a=b;*c=d;x=*y;p=r+1").averageTargets());
    Due.noQuotient("no reachable facts", () -> Make.with("", "a=&b;x=new").averageTargets());
    Make.body(analyzer, 0, "");
    Due.noQuotient("no longer", analyzer::averageTargets);
  }

  private static void save() {
    Sentence.of(37, "Saves the bodies and the limit, in place of what was saved before.");
    PointerAnalyzer analyzer = Make.with(2, "a=&b", "b=&c", "c=&d", "d=&a");
    analyzer.save();
    for (int function = 0; function < 4; function++) {
      Make.body(analyzer, function, "x=new;a=b");
    }
    analyzer.setLimit(1);
    analyzer.save();
    Make.body(analyzer, 0, Make.times("*a=b", 12));
    analyzer.setLimit(0);
    analyzer.restore();
    Due.same("the later statements", analyzer.statementCount(), 8);
    Due.same("the later sites", analyzer.siteCount(), 4);
    Due.same("the later limit", analyzer.setLimit(0), 1);
    for (int statement = 0; statement < 8; statement++) {
      Due.same("kind", analyzer.kind(statement), statement % 2 == 0 ? 4 : 1);
      Due.same("functionOf", analyzer.functionOf(statement), statement / 2);
    }
    PointerAnalyzer empty = Make.with(2, "a=&b");
    empty.save();
    Make.body(empty, 0, "");
    empty.setLimit(0);
    empty.save();
    Make.body(empty, 0, "a=&b");
    empty.restore();
    Due.same("empty bodies in place of others", empty.statementCount(), 0);
    Due.same("0 in place of 2", empty.setLimit(0), 0);
    PointerAnalyzer nothing = Make.with(1, "a=new;*b=a");
    nothing.run();
    nothing.save();
    Due.same("saving changes no body", nothing.statementCount(), 2);
    Due.same("and no run", nothing.faults(), 1);
    Due.same("and no limit", nothing.setLimit(0), 1);
  }

  private static void restore() {
    restoreAnswer();
    restoreStaysSaved();
    restoreThrowsState();
  }

  private static void restoreAnswer() {
    Sentence.of(38, "Restores the bodies and the limit as they were saved last.");
    PointerAnalyzer full = Make.with(2, Make.times("a=&b", 12), Make.times("c=d+2", 12),
        Make.times("*a=b", 12), Make.times("a=new", 8) + ";" + Make.times("b=f1(a)", 4));
    full.save();
    for (int function = 0; function < 4; function++) {
      Make.body(full, function, "");
    }
    full.setLimit(0);
    full.restore();
    int[] kinds = {0, 5, 3, 4};
    for (int statement = 0; statement < 48; statement++) {
      Due.same("kind", full.kind(statement), statement < 44 ? kinds[statement / 12] : 6);
    }
    Due.same("sites", full.siteCount(), 8);
    Due.same("limit", full.setLimit(2), 2);
    PointerAnalyzer parts = Make.with("a=&b;c=a");
    parts.save();
    Make.body(parts, 0, "a=&d;c=b");
    Due.same("before", parts.pointsTo(Make.A), Make.set(Make.D));
    Due.same("before, unified", parts.unifiedTargets(Make.C), 0);
    Due.same("before, rounds", parts.roundCount(), 1);
    parts.restore();
    Due.same("after", parts.pointsTo(Make.A), Make.set(Make.B));
    Due.same("after, unified", parts.unifiedTargets(Make.C), Make.set(Make.B));
    Due.same("after, rounds", parts.roundCount(), 2);
    Make.body(parts, 0, "a=&c");
    Make.body(parts, 0, "a=&x");
    parts.restore();
    Due.same("over several bodies", parts.pointsTo(Make.A), Make.set(Make.B));
  }

  private static void restoreStaysSaved() {
    Sentence.of(38, "They stay saved.");
    PointerAnalyzer again = Make.with(1, "a=&b");
    again.save();
    for (int time = 0; time < 3; time++) {
      Make.body(again, 0, "b=&c;c=new");
      Make.body(again, 3, "b=&c");
      again.setLimit(2);
      again.restore();
      Due.same("statements", again.statementCount(), 1);
      Due.same("pointsTo", again.pointsTo(Make.A), Make.set(Make.B));
      Due.same("limit", again.setLimit(0), 1);
    }
    again.restore();
    again.restore();
    Due.same("twice without a change", again.statementCount(), 1);
  }

  private static void restoreThrowsState() {
    Sentence.of(38, "Throws IllegalStateException if nothing was saved");
    PointerAnalyzer never = new PointerAnalyzer();
    Due.noState("a new one", never::restore);
    Due.noState("asked again", never::restore);
    Make.body(never, 0, "a=&b");
    Due.noState("with a body", never::restore);
    never.save();
    never.restore();
    Due.same("saved", never.statementCount(), 1);
    PointerAnalyzer empty = new PointerAnalyzer();
    empty.save();
    Make.body(empty, 0, "a=&b");
    empty.restore();
    Due.same("empty bodies are something", empty.statementCount(), 0);
    Due.noState("not what another saved", () -> new PointerAnalyzer().restore());
  }

  private static void neitherTextNorFault() {
    Sentence.of(0, "What is saved contains neither the text nor the fault position.");
    PointerAnalyzer analyzer = new PointerAnalyzer();
    Make.type(analyzer, "a=");
    analyzer.save();
    Make.type(analyzer, "&b");
    analyzer.restore();
    Due.same("the text stays", analyzer.appendCharacter(';'), 5);
    analyzer.save();
    Due.noArgument("a fault", () -> analyzer.setBody(0));
    analyzer.restore();
    Due.same("the fault position stays", analyzer.faultPosition(), 5);
    Due.same("the text stays empty", analyzer.appendCharacter('a'), 1);
    analyzer.save();
    Make.type(analyzer, "=&b");
    analyzer.setBody(0);
    analyzer.restore();
    Due.same("without a fault", analyzer.faultPosition(), -1);
    Due.same("the text is still empty", analyzer.setBody(1), 0);
  }
}
