/** Compares an analyzer that refused a call with one of the same past that was never asked. */
final class Refused {
  interface Past {
    PointerAnalyzer make();
  }

  interface Call {
    void on(PointerAnalyzer analyzer);
  }

  private Refused() {
  }

  /** The call throws, and the answers, the text and what is saved stay as they were. */
  static void changesNothing(String what, Class<? extends RuntimeException> due, Past past,
      Call call) {
    compare(what + ", the answers", due, past, call, analyzer -> { });
    compare(what + ", the text", due, past, call, analyzer -> analyzer.setBody(3));
    compare(what + ", what is saved", due, past, call, Refused::useSaved);
  }

  private static void compare(String what, Class<? extends RuntimeException> due, Past past,
      Call call, Call then) {
    PointerAnalyzer refusing = past.make();
    PointerAnalyzer other = past.make();
    Due.thrown(what, due, () -> call.on(refusing));
    then.on(refusing);
    then.on(other);
    Due.equal(what, Answers.of(refusing), Answers.of(other));
  }

  private static void useSaved(PointerAnalyzer analyzer) {
    try {
      analyzer.restore();
    } catch (IllegalStateException e) {
      analyzer.save();
    }
  }

  /** Something of everything: a text, a fault, bodies, a limit, a run, and other bodies saved. */
  static PointerAnalyzer fullPast() {
    PointerAnalyzer analyzer = Make.with(1, "d=new;*d=d", "x=new", "y=&x", "a=&c");
    analyzer.run();
    analyzer.save();
    Make.body(analyzer, 0, "a=new;b=f1(a);*c=b;x=&y;*x=b");
    Make.body(analyzer, 1, "x=p+1;r=x;y=f2(x)");
    Make.body(analyzer, 2, "*p=p;d=f1(p)");
    Make.body(analyzer, 3, "b=&d;y=new");
    analyzer.setLimit(2);
    analyzer.run();
    Make.type(analyzer, "a=b+3");
    Due.noArgument("a fault in the past", () -> analyzer.setBody(0));
    Make.type(analyzer, "a=&b;c=d");
    return analyzer;
  }

  /** Bodies by which nothing points to a target; others are saved. */
  static PointerAnalyzer pastWithoutTargets() {
    PointerAnalyzer analyzer = Make.with(2, "a=new;b=&c");
    analyzer.save();
    Make.body(analyzer, 0, "a=b;*c=d;d=f1(a)");
    Make.body(analyzer, 1, "r=*p;x=x+1");
    analyzer.run();
    Make.type(analyzer, "a=&b;c=a");
    return analyzer;
  }

  /** Nothing was ever saved. */
  static PointerAnalyzer pastWithoutSave() {
    PointerAnalyzer analyzer = Make.with(1, "a=new;b=&c;*d=a");
    analyzer.run();
    Make.type(analyzer, "a=&b;c=a");
    return analyzer;
  }

  /** A text of 80 characters that is a body text of 12 statements. */
  static PointerAnalyzer pastWithFullText() {
    PointerAnalyzer analyzer = Make.with(1, "a=new;b=&c;*d=a");
    analyzer.save();
    Make.body(analyzer, 0, "a=&d");
    analyzer.run();
    Make.type(analyzer, TextSentences.EIGHTY);
    return analyzer;
  }
}
