/** Makes analyzers, and sets of targets, in the words of the document. */
final class Make {
  static final int A = 0;
  static final int B = 1;
  static final int C = 2;
  static final int D = 3;

  private Make() {
  }

  /** A new analyzer with these bodies of the functions 0, 1, .. */
  static PointerAnalyzer with(String... bodies) {
    PointerAnalyzer analyzer = new PointerAnalyzer();
    for (int function = 0; function < bodies.length; function++) {
      body(analyzer, function, bodies[function]);
    }
    return analyzer;
  }

  static PointerAnalyzer with(int limit, String... bodies) {
    PointerAnalyzer analyzer = with(bodies);
    analyzer.setLimit(limit);
    return analyzer;
  }

  static int body(PointerAnalyzer analyzer, int function, String text) {
    type(analyzer, text);
    return analyzer.setBody(function);
  }

  static void type(PointerAnalyzer analyzer, String text) {
    for (int index = 0; index < text.length(); index++) {
      analyzer.appendCharacter(text.charAt(index));
    }
  }

  static int p(int function) {
    return 4 + 4 * function;
  }

  static int r(int function) {
    return p(function) + 1;
  }

  static int x(int function) {
    return p(function) + 2;
  }

  static int y(int function) {
    return p(function) + 3;
  }

  static int field(int site, int field) {
    return 20 + 3 * site + field;
  }

  static long set(int... members) {
    long set = 0;
    for (int member : members) {
      set |= 1L << member;
    }
    return set;
  }

  /** Numbers that are no index of a row of this size, among them those that are one in few bits. */
  static int[] outside(int size) {
    return new int[] {-1, size, size + 1, -size - 1, 64, 256, 65536, 1 << 30, Integer.MIN_VALUE,
        Integer.MAX_VALUE};
  }

  /**
   * Bodies of which the statements in last are executed as number 190, 191, .. of a run, or later
   * by so many.
   */
  static PointerAnalyzer fromStatement190(int later, String last, String called) {
    // The tree of calls of f1 has 31 activations with 6 statements, so that f3 begins after 188.
    return with("x=f1(x);x=f3(x);" + last, "x=f1(x);x=f1(x);x=x;x=x;x=x;x=x", called,
        times("y=y", later + 1));
  }

  static String times(String part, int count) {
    StringBuilder text = new StringBuilder(part);
    for (int index = 1; index < count; index++) {
      text.append(';').append(part);
    }
    return text.toString();
  }
}
