/** The sentences on contexts and cells, and those of the promises 9 to 12 and 27. */
final class ContextSentences {
  /** Two calls of f1, which calls f2, which calls itself; f3 is called by nobody. */
  private static final String[] CHAIN = {"a=f1(a);a=b;a=f1(b)", "x=f2(p)", "y=y;y=f2(y)", "a=b"};

  private ContextSentences() {
  }

  static void all() {
    limits();
    atMostAsManyCalls();
    emptyContextOfFunction0();
    lastCalls();
    withoutContexts();
    orderOfContexts();
    setLimit();
    contextCount();
    contextLength();
    contextCall();
    isReachable();
  }

  private static String told(PointerAnalyzer analyzer, int function) {
    StringBuilder text = new StringBuilder();
    for (int context = 0; context < analyzer.contextCount(function); context++) {
      text.append('[');
      for (int place = 0; place < analyzer.contextLength(function, context); place++) {
        text.append(place == 0 ? "" : " ").append(analyzer.contextCall(function, context, place));
      }
      text.append(']');
    }
    return text.toString();
  }

  private static void same(PointerAnalyzer analyzer, String... due) {
    for (int function = 0; function < due.length; function++) {
      Due.equal("contexts of " + function, told(analyzer, function), due[function]);
    }
  }

  // The description

  private static void limits() {
    Sentence.of(0, "There is a limit from 0 to 2, which is 0 at first.");
    Due.same("at first", new PointerAnalyzer().setLimit(2), 0);
    Due.same("contexts at first", Make.with(CHAIN).contextCount(1), 1);
    for (int limit = 0; limit <= 2; limit++) {
      int due = limit;
      PointerAnalyzer analyzer = Make.with(due, CHAIN);
      Due.noArgument("one more than 2", () -> analyzer.setLimit(3));
      Due.noArgument("one less than 0", () -> analyzer.setLimit(-1));
      Due.same("taken", analyzer.setLimit(0), due);
    }
  }

  private static void atMostAsManyCalls() {
    Sentence.of(0, "A context is a sequence of at most as many call statements, by their numbers.");
    same(Make.with(0, CHAIN), "[]", "[]", "[]", "");
    same(Make.with(1, CHAIN), "[]", "[0][2]", "[3][5]", "");
    same(Make.with(2, CHAIN), "[]", "[0][2]", "[0 3][2 3][3 5][5 5]", "");
  }

  private static void emptyContextOfFunction0() {
    Sentence.of(0, "function 0 has the empty context");
    for (int limit = 0; limit <= 2; limit++) {
      same(Make.with(limit), "[]", "", "", "");
      same(Make.with(limit, "", "a=f0(a)", "a=f1(a)"), "[]", "", "", "");
    }
    same(Make.with(0, "a=f0(a)"), "[]");
    same(Make.with(1, "a=f0(a)"), "[][0]");
    same(Make.with(2, "a=f0(a)"), "[][0][0 0]");
  }

  private static void lastCalls() {
    Sentence.of(0, "the last call statements, as many as the limit allows, of the sequence of this "
        + "context followed by this call");
    String[] line = {"a=f1(a)", "a=f2(a)", "a=f3(a)", "a=f0(a)"};
    same(Make.with(0, line), "[]", "[]", "[]", "[]");
    same(Make.with(1, line), "[][3]", "[0]", "[1]", "[2]");
    same(Make.with(2, line), "[][2 3]", "[0][3 0]", "[0 1]", "[1 2]");
    String[] unreachable = {"a=f1(a)", "", "a=f1(a);a=f0(a)", "a=f2(a)"};
    same(Make.with(2, unreachable), "[]", "[0]", "", "");
  }

  private static void withoutContexts() {
    Sentence.of(0, "A function without contexts is unreachable.");
    for (int limit = 0; limit <= 2; limit++) {
      PointerAnalyzer analyzer = Make.with(limit, CHAIN);
      for (int function = 0; function < 4; function++) {
        Due.same("isReachable " + function, analyzer.isReachable(function), function < 3);
        Due.same("contexts of " + function, analyzer.contextCount(function) > 0, function < 3);
      }
    }
  }

  private static void orderOfContexts() {
    Sentence.of(0, "The contexts of a function are numbered from 0: shorter ones first, and those "
        + "of the same length in lexicographic order of the statement numbers.");
    String[] bodies = {"a=b;a=b;a=f0(a);" + Make.times("a=b", 7) + ";a=f0(a);a=f3(a)", "", "",
        "a=f0(a)"};
    same(Make.with(1, bodies), "[][2][10][12]", "", "", "[11]");
    same(Make.with(2, bodies), "[][2][10][2 2][2 10][10 2][10 10][11 12][12 2][12 10]", "", "",
        "[11][2 11][10 11][12 11]");
  }

  // Promises 9 to 12 and 27

  private static void setLimit() {
    setLimitAnswer();
    setLimitOfLimit();
    setLimitRange();
    setLimitThrowsArgument();
  }

  private static void setLimitAnswer() {
    Sentence.of(9, "Sets the limit of the contexts.");
    PointerAnalyzer analyzer = Make.with(CHAIN);
    int[] limits = {2, 0, 1, 1, 2, 1, 0};
    int[] contexts = {4, 1, 2, 2, 4, 2, 1};
    for (int index = 0; index < limits.length; index++) {
      analyzer.setLimit(limits[index]);
      Due.same("with " + limits[index], analyzer.contextCount(2), contexts[index]);
    }
  }

  private static void setLimitOfLimit() {
    Sentence.of(9, "limit: the limit, 0 to 2");
    PointerAnalyzer analyzer = Make.with(CHAIN);
    for (int limit = 0; limit <= 2; limit++) {
      Due.same("the limit before", analyzer.setLimit(limit), limit == 0 ? 0 : limit - 1);
    }
  }

  private static void setLimitRange() {
    Sentence.of(9, "Returns the previous limit.");
    PointerAnalyzer analyzer = Make.with(CHAIN);
    Due.same("at first", analyzer.setLimit(2), 0);
    Due.same("the same again", analyzer.setLimit(2), 2);
    Due.same("the greatest", analyzer.setLimit(0), 2);
    Due.same("the least", analyzer.setLimit(1), 0);
    Due.same("another", analyzer.setLimit(1), 1);
    Make.body(analyzer, 0, "");
    Due.same("a body does not change it", analyzer.setLimit(0), 1);
  }

  private static void setLimitThrowsArgument() {
    Sentence.of(9, "Throws IllegalArgumentException if the limit is out of range");
    PointerAnalyzer analyzer = Make.with(CHAIN);
    analyzer.setLimit(1);
    for (int limit : Make.outside(3)) {
      Due.noArgument("limit " + limit, () -> analyzer.setLimit(limit));
    }
    Due.same("the limit stays", analyzer.setLimit(0), 1);
  }

  private static void contextCount() {
    contextCountAnswer();
    contextCountOfFunction();
    contextCountRange();
    contextCountThrowsIndex();
  }

  private static PointerAnalyzer contextCountLine() {
    return Make.with(2, "a=f1(a)", "a=f2(a)", "a=f3(a);b=f3(b)", "");
  }

  private static void contextCountAnswer() {
    Sentence.of(10, "Returns the number of contexts of a function.");
    PointerAnalyzer most = thirtyOneContexts();
    Due.same("as many as there can be", most.contextCount(0), 31);
    most.setLimit(1);
    Due.same("with 1", most.contextCount(0), 6);
    most.setLimit(0);
    Due.same("with 0", most.contextCount(0), 1);
  }

  private static void contextCountOfFunction() {
    Sentence.of(10, "function: the function, 0 to 3");
    PointerAnalyzer line = contextCountLine();
    Due.same("the first", line.contextCount(0), 1);
    Due.same("the last", line.contextCount(3), 2);
  }

  private static void contextCountRange() {
    Sentence.of(10, "Returns the number of contexts, 0 if the function is unreachable.");
    PointerAnalyzer unreachable = Make.with(2, "", "a=f2(a)", "a=f1(a)", "a=f3(a)");
    Due.same("reachable", unreachable.contextCount(0), 1);
    for (int function = 1; function < 4; function++) {
      Due.same("unreachable", unreachable.contextCount(function), 0);
    }

    PointerAnalyzer fewer = Make.with(2, CHAIN);
    Due.same("called", fewer.contextCount(2), 4);
    Make.body(fewer, 0, "a=b");
    for (int function = 1; function < 4; function++) {
      Due.same("no longer called", fewer.contextCount(function), 0);
    }
  }

  private static void contextCountThrowsIndex() {
    Sentence.of(10, "Throws IndexOutOfBoundsException if there is no such function");
    PointerAnalyzer line = contextCountLine();
    for (int function : Make.outside(4)) {
      Due.noIndex("function " + function, () -> line.contextCount(function));
    }
  }

  private static void contextLength() {
    contextLengthAnswer();
    contextLengthOfFunction();
    contextLengthOfContext();
    contextLengthRange();
    contextLengthThrowsIndex();
  }

  private static PointerAnalyzer thirtyOneContexts() {
    return Make.with(2, Make.times("a=f0(b)", 5));
  }

  private static PointerAnalyzer lineToItself() {
    return Make.with(2, "a=f1(a)", "a=f2(a)", "a=f3(a)", "a=f3(a)");
  }

  private static void contextLengthAnswer() {
    Sentence.of(11, "Returns the length of a context.");
    PointerAnalyzer most = thirtyOneContexts();
    for (int context = 0; context < 31; context++) {
      Due.same("of context " + context, most.contextLength(0, context),
          context == 0 ? 0 : context <= 5 ? 1 : 2);
    }
  }

  private static void contextLengthOfFunction() {
    Sentence.of(11, "function: the function, 0 to 3");
    PointerAnalyzer line = lineToItself();
    Due.same("the first", line.contextLength(0, 0), 0);
    Due.same("the last", line.contextLength(3, 0), 2);
  }

  private static void contextLengthOfContext() {
    Sentence.of(11, "context: the number of the context");
    PointerAnalyzer line = lineToItself();
    Due.same("the last of the last function", line.contextLength(3, 2), 2);
    Due.same("the last with 1", Make.with(1, CHAIN).contextLength(2, 1), 1);
  }

  private static void contextLengthRange() {
    Sentence.of(11, "Returns 0 to 2.");
    int[] lengths = {0, 1, 2};
    for (int limit = 0; limit <= 2; limit++) {
      PointerAnalyzer chain = Make.with(limit, "a=f1(a)", "a=f2(a)");
      Due.same("of 2", chain.contextLength(2, 0), lengths[limit]);
      Due.same("of 0", chain.contextLength(0, 0), 0);
    }
  }

  private static void contextLengthThrowsIndex() {
    Sentence.of(11, "Throws IndexOutOfBoundsException if there is no such function or context");
    PointerAnalyzer line = lineToItself();
    PointerAnalyzer most = thirtyOneContexts();
    for (int function : Make.outside(4)) {
      Due.noIndex("function " + function, () -> line.contextLength(function, 0));
    }
    for (int context : Make.outside(1)) {
      Due.noIndex("context " + context, () -> line.contextLength(0, context));
    }
    for (int context : Make.outside(3)) {
      Due.noIndex("context of the last " + context, () -> line.contextLength(3, context));
    }
    for (int context : Make.outside(31)) {
      Due.noIndex("context of 31: " + context, () -> most.contextLength(0, context));
    }
    Due.noIndex("unreachable", () -> Make.with(CHAIN).contextLength(3, 0));
    PointerAnalyzer fewer = Make.with(1, CHAIN);
    Due.same("there with 1", fewer.contextLength(1, 1), 1);
    fewer.setLimit(0);
    Due.noIndex("not there with 0", () -> fewer.contextLength(1, 1));
  }

  private static void contextCall() {
    contextCallAnswer();
    contextCallOfFunction();
    contextCallOfContext();
    contextCallOfPosition();
    contextCallRange();
    contextCallThrowsIndex();
  }

  private static PointerAnalyzer contextCallLine() {
    return Make.with(2, "a=b;a=f1(a)", "a=b;a=b;a=f2(a)", "a=f3(a)", "a=f3(a)");
  }

  private static void contextCallAnswer() {
    Sentence.of(12, "Returns a call statement of a context.");
    PointerAnalyzer line = contextCallLine();
    Due.same("of one call", line.contextCall(1, 0, 0), 1);
    Due.same("of two calls", line.contextCall(2, 0, 1), 4);
    Make.body(line, 0, "a=f1(a)");
    Due.same("by its new number", line.contextCall(2, 0, 1), 3);
  }

  private static void contextCallOfFunction() {
    Sentence.of(12, "function: the function, 0 to 3");
    PointerAnalyzer line = contextCallLine();
    Due.same("the first", Make.with(1, "a=b;a=f0(a)").contextCall(0, 1, 0), 1);
    Due.same("the last", line.contextCall(3, 0, 0), 4);
  }

  private static void contextCallOfContext() {
    Sentence.of(12, "context: the number of the context");
    Due.same("the first", Make.with(1, "a=b;a=f1(a)").contextCall(1, 0, 0), 1);
    PointerAnalyzer most = thirtyOneContexts();
    Due.same("the last", most.contextCall(0, 30, 0), 4);
    Due.same("the last but one", most.contextCall(0, 29, 1), 3);
  }

  private static void contextCallOfPosition() {
    Sentence.of(12, "position: the position, from 0");
    PointerAnalyzer line = contextCallLine();
    Due.same("position 0", line.contextCall(3, 1, 0), 5);
    Due.same("position 1", line.contextCall(3, 1, 1), 6);
  }

  private static void contextCallRange() {
    Sentence.of(12, "Returns the number of the statement.");
    PointerAnalyzer most = thirtyOneContexts();
    PointerAnalyzer far = Make.with(2, Make.times("a=b", 11) + ";a=f1(a)", Make.times("a=b", 11)
        + ";a=f2(a)", Make.times("a=b", 11) + ";a=f3(a)", Make.times("a=b", 11) + ";a=f3(a)");
    Due.same("the last but one", far.contextCall(3, 1, 0), 35);
    Due.same("the last of 48", far.contextCall(3, 1, 1), 47);
    Due.same("the first", most.contextCall(0, 6, 0), 0);
  }

  private static void contextCallThrowsIndex() {
    Sentence.of(12, "if there is no such function, context or position");
    PointerAnalyzer line = contextCallLine();
    for (int function : Make.outside(4)) {
      Due.noIndex("function " + function, () -> line.contextCall(function, 0, 0));
    }
    for (int context : Make.outside(3)) {
      Due.noIndex("context " + context, () -> line.contextCall(3, context, 0));
    }
    for (int position : Make.outside(0)) {
      Due.noIndex("position in none: " + position, () -> line.contextCall(0, 0, position));
    }
    for (int position : Make.outside(1)) {
      Due.noIndex("position in one: " + position, () -> line.contextCall(1, 0, position));
    }
    for (int position : Make.outside(2)) {
      Due.noIndex("position in two: " + position, () -> line.contextCall(3, 2, position));
    }
    Due.noIndex("unreachable", () -> Make.with(CHAIN).contextCall(3, 0, 0));
  }

  private static void isReachable() {
    isReachableAnswer();
    isReachableOfFunction();
    isReachableRange();
    isReachableThrowsIndex();
  }

  private static PointerAnalyzer isReachableAnalyzer() {
    return Make.with("a=f2(a)", "a=f3(a)", "", "");
  }

  private static void isReachableAnswer() {
    Sentence.of(27, "Returns whether a function is reachable, that is, has a context.");
    PointerAnalyzer analyzer = isReachableAnalyzer();
    Due.same("called", analyzer.isReachable(2), true);
    Due.same("called by an unreachable one", analyzer.isReachable(3), false);
    Make.body(analyzer, 2, "a=f1(a)");
    Due.same("called by others", analyzer.isReachable(3), true);
    Due.same("function 0 without a call", new PointerAnalyzer().isReachable(0), true);
    Due.same("a call of itself is not enough", Make.with("", "a=f1(a)").isReachable(1), false);
  }

  private static void isReachableOfFunction() {
    Sentence.of(27, "function: the function, 0 to 3");
    Due.same("the last", Make.with("a=f3(a)").isReachable(3), true);
    Due.same("the first", Make.with("a=f3(a)").isReachable(0), true);
  }

  private static void isReachableRange() {
    Sentence.of(27, "Returns whether it is reachable.");
    Due.same("an empty body, too", Make.with("a=f1(a)").isReachable(1), true);
    Due.same("not by other statements", Make.with("a=b+1;a=&b").isReachable(1), false);
  }

  private static void isReachableThrowsIndex() {
    Sentence.of(27, "Throws IndexOutOfBoundsException if there is no such function");
    PointerAnalyzer analyzer = isReachableAnalyzer();
    for (int function : Make.outside(4)) {
      Due.noIndex("function " + function, () -> analyzer.isReachable(function));
    }
  }
}
