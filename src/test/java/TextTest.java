/** Promises 1 to 8: a new object, the text, bodies, fault positions and numbers of statements. */
final class TextTest {
  private static final Class<IllegalArgumentException> ARGUMENT = IllegalArgumentException.class;
  private static final Class<IllegalStateException> STATE = IllegalStateException.class;

  public static void main(String[] args) {
    newObject();
    appendCharacter();
    appendCharacterThrows();
    setBodyTakesEachKind();
    setBodyLimits();
    setBodyLimitsOfAllBodies();
    setBodyEmptiesText();
    setBodyOrderOfExceptions();
    setBodyThatThrowsChangesNothing();
    faultPositions();
    faultPositionStays();
    statementNumbers();
    Due.finish();
  }

  private static void newObject() {
    PointerAnalyzer analyzer = new PointerAnalyzer();
    Due.same("faultPosition", analyzer.faultPosition(), -1);
    Due.same("statementCount", analyzer.statementCount(), 0);
    Due.same("siteCount", analyzer.siteCount(), 0);
    Due.same("factCount", analyzer.factCount(), 0);
    Due.same("roundCount", analyzer.roundCount(), 0);
    Due.same("unifiedClasses", analyzer.unifiedClasses(), 20);
    Due.same("escapingSites", analyzer.escapingSites(), 0);
    Due.same("faults", analyzer.faults(), 0);
    Due.same("objects", analyzer.objects(), 0);
    Due.same("run", analyzer.run(), 0);
    for (int variable = 0; variable < 20; variable++) {
      Due.same("pointsTo", analyzer.pointsTo(variable), 0);
      Due.same("unifiedTargets", analyzer.unifiedTargets(variable), 0);
      Due.same("observed", analyzer.observed(variable), 0);
      Due.same("reach", analyzer.reach(variable), 0);
      Due.same("cycleOf", analyzer.cycleOf(variable), 1L << variable);
    }
    for (int function = 0; function < 4; function++) {
      Due.same("contextCount", analyzer.contextCount(function), function == 0 ? 1 : 0);
      Due.same("modifies", analyzer.modifies(function), 0);
      Due.same("isRecursive", analyzer.isRecursive(function), false);
    }
    Due.same("setLimit", analyzer.setLimit(0), 0);
    Due.same("setBody of the empty text", analyzer.setBody(3), 0);
  }

  private static void appendCharacter() {
    PointerAnalyzer analyzer = new PointerAnalyzer();
    Due.same("append 33", analyzer.appendCharacter(33), 1);
    Due.same("append 126", analyzer.appendCharacter(126), 2);
    for (int length = 3; length <= 80; length++) {
      Due.same("append", analyzer.appendCharacter('a'), length);
    }
  }

  private static void appendCharacterThrows() {
    PointerAnalyzer analyzer = new PointerAnalyzer();
    int[] wrong = {32, 127, 0, -1, 65569, Integer.MIN_VALUE, Integer.MAX_VALUE};
    for (int character : wrong) {
      Due.thrown("append", ARGUMENT, () -> analyzer.appendCharacter(character));
    }
    Due.same("append after faults", analyzer.appendCharacter('a'), 1);
    for (int length = 2; length <= 80; length++) {
      analyzer.appendCharacter('a');
    }
    Due.thrown("append to 80", STATE, () -> analyzer.appendCharacter('a'));
    Due.thrown("append 32 to 80", ARGUMENT, () -> analyzer.appendCharacter(32));
    Due.thrown("setBody", ARGUMENT, () -> analyzer.setBody(0));
    Due.same("fault", analyzer.faultPosition(), 1);
    Due.same("append after setBody", analyzer.appendCharacter('a'), 1);
  }

  private static void setBodyTakesEachKind() {
    String[] texts = {"a=&b", "b=c", "c=*d", "*d=a", "p=new", "r=x+0", "x=y+2", "y=f3(p)"};
    int[] kinds = {0, 1, 2, 3, 4, 5, 5, 6};
    for (int function = 0; function < 4; function++) {
      PointerAnalyzer analyzer = new PointerAnalyzer();
      Due.same("setBody", Make.body(analyzer, function, String.join(";", texts)), 8);
      Due.same("faultPosition", analyzer.faultPosition(), -1);
      for (int statement = 0; statement < 8; statement++) {
        Due.same("kind " + statement, analyzer.kind(statement), kinds[statement]);
        Due.same("functionOf", analyzer.functionOf(statement), function);
      }
    }
  }

  private static void setBodyLimits() {
    PointerAnalyzer analyzer = new PointerAnalyzer();
    Due.same("12 statements", Make.body(analyzer, 1, Make.times("a=b", 12)), 12);
    Make.type(analyzer, Make.times("a=b", 13));
    Due.thrown("13 statements", STATE, () -> analyzer.setBody(1));
    Make.type(analyzer, Make.times("a=b", 20));
    Due.thrown("20 statements", STATE, () -> analyzer.setBody(1));
    Due.same("8 allocations", Make.body(analyzer, 1, Make.times("a=new", 8)), 8);
    Make.type(analyzer, Make.times("a=new", 9));
    Due.thrown("9 allocations", STATE, () -> analyzer.setBody(1));
    Due.same("5 calls", Make.body(analyzer, 1, Make.times("a=f0(b)", 5)), 5);
    Make.type(analyzer, Make.times("a=f0(b)", 6));
    Due.thrown("6 calls", STATE, () -> analyzer.setBody(1));
    Due.same("as before", analyzer.statementCount(), 5);
    Due.same("no fault in it", analyzer.faultPosition(), -1);
  }

  private static void setBodyLimitsOfAllBodies() {
    PointerAnalyzer analyzer = Make.with(
        "a=new;a=new;a=new;a=f1(b);a=f1(b)", "a=new;a=new;a=f1(b)", "a=new;a=f1(b)");
    Due.same("sites", analyzer.siteCount(), 6);
    Make.type(analyzer, "a=new;a=new;a=new");
    Due.thrown("9 allocations", STATE, () -> analyzer.setBody(3));
    Make.type(analyzer, "a=f1(b);a=f1(b)");
    Due.thrown("6 calls", STATE, () -> analyzer.setBody(3));
    Due.same("8 and 5", Make.body(analyzer, 3, "a=new;a=new;a=f1(b)"), 3);
    Due.same("sites", analyzer.siteCount(), 8);
    Due.same("instead", Make.body(analyzer, 0, "a=new;a=new;a=new;a=f1(b);a=f1(b)"), 5);
    Make.type(analyzer, "a=new;a=new;a=new");
    Due.thrown("one more instead", STATE, () -> analyzer.setBody(1));
    Due.same("fewer instead", Make.body(analyzer, 0, "a=b"), 1);
    Due.same("room again", Make.body(analyzer, 1, "a=new;a=new;a=new;a=f1(b)"), 4);
    for (int function = 0; function < 4; function++) {
      Make.body(analyzer, function, Make.times("a=b", 12));
    }
    Due.same("48 statements", analyzer.statementCount(), 48);
  }

  private static void setBodyEmptiesText() {
    PointerAnalyzer analyzer = new PointerAnalyzer();
    Make.type(analyzer, "a=b");
    analyzer.setBody(0);
    Due.same("after a body", analyzer.appendCharacter('a'), 1);
    Due.thrown("fault", ARGUMENT, () -> analyzer.setBody(0));
    Due.same("after a fault", analyzer.appendCharacter('a'), 1);
    Make.type(analyzer, Make.times("=b;a", 13) + "=c");
    Due.thrown("too long", ARGUMENT, () -> analyzer.setBody(0));
    Make.type(analyzer, Make.times("a=b", 13));
    Due.thrown("too long", STATE, () -> analyzer.setBody(0));
    Due.same("after too long", analyzer.appendCharacter('a'), 1);
    Make.type(analyzer, "=b");
    Due.noIndex("setBody(4)", () -> analyzer.setBody(4));
    Due.same("after no function", analyzer.appendCharacter(';'), 4);
    Make.type(analyzer, "c=d");
    Due.same("text is still there", analyzer.setBody(3), 2);
  }

  private static void setBodyOrderOfExceptions() {
    PointerAnalyzer analyzer = new PointerAnalyzer();
    Make.type(analyzer, Make.times("a=b", 13) + "!");
    int[] wrong = {-1, 4, Integer.MIN_VALUE, Integer.MAX_VALUE};
    for (int function : wrong) {
      Due.noIndex("setBody", () -> analyzer.setBody(function));
    }
    Due.same("no text was read", analyzer.faultPosition(), -1);
    Due.thrown("fault before length", ARGUMENT, () -> analyzer.setBody(0));
    Due.same("fault", analyzer.faultPosition(), 51);
  }

  private static void setBodyThatThrowsChangesNothing() {
    PointerAnalyzer analyzer = Make.with("a=&b;c=new");
    analyzer.run();
    Make.type(analyzer, "a=&d;");
    Due.thrown("fault", ARGUMENT, () -> analyzer.setBody(0));
    Make.type(analyzer, Make.times("a=&d", 13));
    Due.thrown("too long", STATE, () -> analyzer.setBody(0));
    Due.noIndex("no function", () -> analyzer.setBody(-1));
    Due.same("statements", analyzer.statementCount(), 2);
    Due.same("pointsTo", analyzer.pointsTo(0), 2);
    Due.same("observed", analyzer.observed(0), 2);
    Due.same("objects", analyzer.objects(), 1);
  }

  private static void faultPositions() {
    Object[][] rows = {
      {"a", 1}, {"a=", 2}, {"a=&", 3}, {"a=*", 3}, {"a=b+", 4}, {"a=n", 3}, {"a=ne", 4},
      {"a=f", 3}, {"a=f0", 4}, {"a=f0(", 5}, {"a=f0(b", 6}, {"*", 1}, {"*a", 2}, {"*a=", 3},
      {"a=b;", 4}, {"a=new;", 6}, {"a=f2(b);", 8},
      {";", 0}, {"=", 0}, {"e", 0}, {"n", 0}, {"f0(a)", 0}, {"q", 0}, {"z", 0}, {"A", 0}, {"0", 0},
      {"&a=b", 0}, {"a;", 1}, {"ab", 1}, {"a+1", 1}, {"a=&&b", 3}, {"a=&*b", 3}, {"a=**b", 3},
      {"a==", 2}, {"a=;", 2}, {"a=e", 2}, {"a=0", 2}, {"a=q", 2}, {"a=&new", 3}, {"a=&b+1", 4},
      {"a=*b+1", 4}, {"a=&bc", 4}, {"a=b+3", 4}, {"a=b+b", 4}, {"a=b+1+1", 5}, {"a=b+12", 5},
      {"a=b=c", 3}, {"a=bc", 3}, {"a=nw", 3}, {"a=nex", 4}, {"a=neww", 5}, {"a=new+1", 5},
      {"a=f4(b)", 3}, {"a=fa(b)", 3}, {"a=f0b", 4}, {"a=f0()", 5}, {"a=f0(&b)", 5},
      {"a=f0(b;", 6}, {"a=f0(b))", 7}, {"a=f0(b)+1", 7}, {"a=f0(b,c)", 6},
      {"**a=b", 1}, {"*a=*b", 3}, {"*a=&b", 3}, {"*a=new", 3}, {"*a=f0(b)", 3}, {"*a=b+1", 4},
      {"*a;", 2}, {"*&a=b", 1}, {"*a+1=b", 2}, {"a=b;;", 4}, {"a=b;;c=d", 4}, {"a=b;c", 5},
      {"a=b;*c=d;x=new;y=f3(p);r=x+2;e", 29}, {"a=b,c=d", 3}, {"a=b!", 3}, {"a=~", 2}
    };
    for (Object[] row : rows) {
      PointerAnalyzer analyzer = new PointerAnalyzer();
      String text = (String) row[0];
      Make.type(analyzer, text);
      Due.thrown(text, ARGUMENT, () -> analyzer.setBody(2));
      Due.same("fault of " + text, analyzer.faultPosition(), (Integer) row[1]);
    }
    PointerAnalyzer analyzer = new PointerAnalyzer();
    Make.type(analyzer, Make.times("a=b", 20) + ";");
    Due.thrown("80 characters", ARGUMENT, () -> analyzer.setBody(0));
    Due.same("fault at the end of 80", analyzer.faultPosition(), 80);
  }

  private static void faultPositionStays() {
    PointerAnalyzer analyzer = new PointerAnalyzer();
    analyzer.save();
    Make.type(analyzer, "a=b+3");
    Due.thrown("fault", ARGUMENT, () -> analyzer.setBody(0));
    Due.noIndex("no function", () -> analyzer.setBody(4));
    Due.same("after no function", analyzer.faultPosition(), 4);
    analyzer.restore();
    Due.same("after restore", analyzer.faultPosition(), 4);
    Make.type(analyzer, Make.times("a=b", 13));
    Due.thrown("too long", STATE, () -> analyzer.setBody(0));
    Due.same("after a text without a fault", analyzer.faultPosition(), -1);
    Make.type(analyzer, "?");
    Due.thrown("fault", ARGUMENT, () -> analyzer.setBody(0));
    Due.same("at the first", analyzer.faultPosition(), 0);
    Due.same("the empty body", analyzer.setBody(0), 0);
    Due.same("after the empty text", analyzer.faultPosition(), -1);
  }

  private static void statementNumbers() {
    PointerAnalyzer analyzer = Make.with("a=b;a=new", "", "*x=y;x=*y;x=&y", "x=f0(y);x=y+1");
    int[] kinds = {1, 4, 3, 2, 0, 6, 5};
    int[] functions = {0, 0, 2, 2, 2, 3, 3};
    Due.same("statements", analyzer.statementCount(), 7);
    for (int statement = 0; statement < 7; statement++) {
      Due.same("kind", analyzer.kind(statement), kinds[statement]);
      Due.same("functionOf", analyzer.functionOf(statement), functions[statement]);
    }
    int[] wrong = {-1, 7, 48, Integer.MIN_VALUE, Integer.MAX_VALUE};
    for (int statement : wrong) {
      Due.noIndex("kind", () -> analyzer.kind(statement));
      Due.noIndex("functionOf", () -> analyzer.functionOf(statement));
    }
    Make.body(analyzer, 0, "b=new;c=new;d=new");
    Due.same("moved", analyzer.functionOf(3), 2);
    Due.same("kind", analyzer.kind(3), 3);
    Due.same("sites", analyzer.siteCount(), 3);
    Make.body(analyzer, 2, "");
    Due.same("statements", analyzer.statementCount(), 5);
    Due.same("moved back", analyzer.functionOf(3), 3);
  }
}
