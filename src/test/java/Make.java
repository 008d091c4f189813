/** Makes analyzers, and sets of targets, in the words of the document. */
final class Make {
  static final int A = 0;
  static final int B = 1;
  static final int C = 2;
  static final int D = 3;

  private Make() {
  }

  /** A new analyzer with these bodies of the functions 0, 1, .. */
  static PointerAnalyzer with(String... bodies) {
    PointerAnalyzer analyzer = new PointerAnalyzer();
    for (int function = 0; function < bodies.length; function++) {
      body(analyzer, function, bodies[function]);
    }
    return analyzer;
  }

  static PointerAnalyzer with(int limit, String... bodies) {
    PointerAnalyzer analyzer = with(bodies);
    analyzer.setLimit(limit);
    return analyzer;
  }

  static int body(PointerAnalyzer analyzer, int function, String text) {
    type(analyzer, text);
    return analyzer.setBody(function);
  }

  static void type(PointerAnalyzer analyzer, String text) {
    for (int index = 0; index < text.length(); index++) {
      analyzer.appendCharacter(text.charAt(index));
    }
  }

  static int p(int function) {
    return 4 + 4 * function;
  }

  static int r(int function) {
    return p(function) + 1;
  }

  static int x(int function) {
    return p(function) + 2;
  }

  static int y(int function) {
    return p(function) + 3;
  }

  static int field(int site, int field) {
    return 20 + 3 * site + field;
  }

  static long set(int... members) {
    long set = 0;
    for (int member : members) {
      set |= 1L << member;
    }
    return set;
  }

  static String times(String part, int count) {
    StringBuilder text = new StringBuilder(part);
    for (int index = 1; index < count; index++) {
      text.append(';').append(part);
    }
    return text.toString();
  }
}
