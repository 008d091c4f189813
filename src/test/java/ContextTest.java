/** Promises 9 to 12 and 27: the limit, the contexts, and reachable functions. */
final class ContextTest {
  public static void main(String[] args) {
    setLimit();
    limitZero();
    limitOne();
    limitTwo();
    mostContexts();
    unreachable();
    callsOfUnreachableFunctions();
    firstQuestion();
    wrongArguments();
    Due.finish();
  }

  private static void setLimit() {
    PointerAnalyzer analyzer = new PointerAnalyzer();
    Due.same("to 2", analyzer.setLimit(2), 0);
    Due.same("to 1", analyzer.setLimit(1), 2);
    int[] wrong = {-1, 3, Integer.MIN_VALUE, Integer.MAX_VALUE};
    for (int limit : wrong) {
      Due.thrown("setLimit", IllegalArgumentException.class, () -> analyzer.setLimit(limit));
    }
    Due.same("to 0", analyzer.setLimit(0), 1);
    Due.same("to 0 again", analyzer.setLimit(0), 0);
  }

  private static PointerAnalyzer chain(int limit) {
    return Make.with(limit, "a=f1(a);a=b;a=f1(b)", "x=f2(p)", "y=f1(x);y=f2(y)", "a=b");
  }

  private static void limitZero() {
    PointerAnalyzer analyzer = chain(0);
    for (int function = 0; function < 3; function++) {
      Due.same("contexts", analyzer.contextCount(function), 1);
      Due.same("length", analyzer.contextLength(function, 0), 0);
      int asked = function;
      Due.noIndex("call", () -> analyzer.contextCall(asked, 0, 0));
    }
    Due.same("contexts of 3", analyzer.contextCount(3), 0);
  }

  private static void limitOne() {
    PointerAnalyzer analyzer = chain(1);
    Due.same("contexts of 0", analyzer.contextCount(0), 1);
    Due.same("length of the empty one", analyzer.contextLength(0, 0), 0);
    sameContexts(analyzer, 1, new int[][] {{0}, {2}, {4}});
    sameContexts(analyzer, 2, new int[][] {{3}, {5}});
    Due.same("contexts of 3", analyzer.contextCount(3), 0);
  }

  private static void limitTwo() {
    PointerAnalyzer analyzer = chain(2);
    sameContexts(analyzer, 0, new int[][] {{}});
    sameContexts(analyzer, 1, new int[][] {{0}, {2}, {3, 4}, {5, 4}});
    sameContexts(analyzer, 2, new int[][] {{0, 3}, {2, 3}, {3, 5}, {4, 3}, {5, 5}});
    sameContexts(analyzer, 3, new int[][] {});
    Make.body(analyzer, 0, "a=f0(a)");
    sameContexts(analyzer, 0, new int[][] {{}, {0}, {0, 0}});
    Make.body(analyzer, 1, "");
    Make.body(analyzer, 0, "a=f0(a);a=f0(b);b=f1(a)");
    sameContexts(analyzer, 0, new int[][] {{}, {0}, {1}, {0, 0}, {0, 1}, {1, 0}, {1, 1}});
    sameContexts(analyzer, 1, new int[][] {{2}, {0, 2}, {1, 2}});
  }

  private static void mostContexts() {
    PointerAnalyzer analyzer = Make.with(2, Make.times("a=f0(b)", 5));
    Due.same("all", analyzer.contextCount(0), 31);
    Due.same("length", analyzer.contextLength(0, 30), 2);
    Due.same("first call of the last", analyzer.contextCall(0, 30, 0), 4);
    Due.same("second call of the last", analyzer.contextCall(0, 30, 1), 4);
    Due.same("first pair", analyzer.contextLength(0, 6), 2);
    Due.same("last single", analyzer.contextCall(0, 5, 0), 4);
    Due.noIndex("no 32nd", () -> analyzer.contextLength(0, 31));
  }

  private static void unreachable() {
    PointerAnalyzer analyzer = Make.with("a=f2(b)", "a=f3(b)", "", "");
    boolean[] reachable = {true, false, true, false};
    for (int limit = 0; limit <= 2; limit++) {
      analyzer.setLimit(limit);
      for (int function = 0; function < 4; function++) {
        Due.same("isReachable", analyzer.isReachable(function), reachable[function]);
      }
    }
    Make.body(analyzer, 2, "a=f1(b)");
    Due.same("now", analyzer.isReachable(1), true);
    Due.same("now by it", analyzer.isReachable(3), true);
    Make.body(analyzer, 0, "");
    Due.same("0 is always", analyzer.isReachable(0), true);
    Due.same("no more", analyzer.isReachable(2), false);
  }

  private static void callsOfUnreachableFunctions() {
    PointerAnalyzer analyzer = Make.with(2, "a=f1(b)", "", "a=f1(b);a=f0(b)");
    sameContexts(analyzer, 0, new int[][] {{}});
    sameContexts(analyzer, 1, new int[][] {{0}});
  }

  /** Each question must be answered also when it is the first one. */
  private static void firstQuestion() {
    String[] bodies = {"a=f1(b);a=f1(b)", "a=f2(b)", ""};
    Due.same("contextCount", Make.with(1, bodies).contextCount(1), 2);
    Due.same("contextLength", Make.with(1, bodies).contextLength(1, 1), 1);
    Due.same("contextCall", Make.with(1, bodies).contextCall(1, 1, 0), 1);
    Due.same("isReachable", Make.with(1, bodies).isReachable(2), true);
    Due.same("pointsToIn", Make.with(1, bodies).pointsToIn(Make.p(1), 1), 0);
    PointerAnalyzer other = Make.with(1, bodies);
    Due.noIndex("the next context is another function's", () -> other.contextCall(1, 2, 0));
    Due.noIndex("the context before, too", () -> other.contextCall(2, -1, 0));
    Due.noIndex("the next one's length", () -> other.contextLength(1, 2));
    Due.noIndex("the next one's targets", () -> other.pointsToIn(Make.p(1), 2));
  }

  private static void wrongArguments() {
    PointerAnalyzer analyzer = Make.with(2, "a=f1(b)", "a=f1(b)");
    int[] wrong = {-1, 4, Integer.MIN_VALUE, Integer.MAX_VALUE};
    for (int value : wrong) {
      Due.noIndex("contextCount", () -> analyzer.contextCount(value));
      Due.noIndex("isReachable", () -> analyzer.isReachable(value));
      Due.noIndex("contextLength", () -> analyzer.contextLength(value, 0));
      Due.noIndex("contextLength", () -> analyzer.contextLength(1, value));
      Due.noIndex("contextCall", () -> analyzer.contextCall(value, 0, 0));
      Due.noIndex("contextCall", () -> analyzer.contextCall(1, value, 0));
      Due.noIndex("contextCall", () -> analyzer.contextCall(1, 1, value));
    }
    Due.noIndex("contextLength of an unreachable one", () -> analyzer.contextLength(2, 0));
    Due.noIndex("contextCall beyond a length of 1", () -> analyzer.contextCall(1, 0, 1));
    Due.noIndex("contextCall beyond a length of 2", () -> analyzer.contextCall(1, 1, 2));
    Due.noIndex("contextCall of the empty context", () -> analyzer.contextCall(0, 0, 0));
  }

  private static void sameContexts(PointerAnalyzer analyzer, int function, int[][] due) {
    Due.same("contextCount of " + function, analyzer.contextCount(function), due.length);
    for (int context = 0; context < due.length; context++) {
      Due.same("length", analyzer.contextLength(function, context), due[context].length);
      for (int position = 0; position < due[context].length; position++) {
        Due.same("call " + position + " of context " + context + " of " + function,
            analyzer.contextCall(function, context, position), due[context][position]);
      }
    }
  }
}
