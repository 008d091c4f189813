/** The sentences on runs, and those of the promises 30 to 34. */
final class RunSentences {
  private RunSentences() {
  }

  static void all() {
    beginsWithFunction0();
    ownLocals();
    nullAtFirst();
    inTheirOrder();
    newObjects();
    throughNull();
    offsets();
    faultsHaveNoEffect();
    offsetOfNull();
    calls();
    sixActivations();
    pointersThatStay();
    twoHundredStatements();
    openCalls();
    lastStatementIsCall();
    observedAtSomeTime();
    refusedCallsCount();
    storesOfNull();
    resultsThatNeverWere();
    run();
    observed();
    fieldObserved();
    faults();
    objects();
  }

  private static PointerAnalyzer ran(String... bodies) {
    PointerAnalyzer analyzer = Make.with(bodies);
    analyzer.run();
    return analyzer;
  }

  private static PointerAnalyzer ran(int later, String last, String called) {
    PointerAnalyzer analyzer = Make.fromStatement190(later, last, called);
    analyzer.run();
    return analyzer;
  }

  // The description

  private static void beginsWithFunction0() {
    Sentence.of(0, "A run begins with function 0.");
    PointerAnalyzer analyzer = Make.with("", "a=&a", "b=&b", "c=&c");
    Due.same("an empty function 0", analyzer.run(), 0);
    for (int variable = 0; variable < 3; variable++) {
      Due.same("not with another", analyzer.observed(variable), 0);
    }
    Make.body(analyzer, 0, "d=&d;x=f2(x)");
    Due.same("and whom it calls", analyzer.run(), 3);
    Due.same("d", analyzer.observed(Make.D), 8);
    Due.same("b", analyzer.observed(Make.B), 2);
    Due.same("a", analyzer.observed(Make.A), 0);
  }

  private static void ownLocals() {
    Sentence.of(0, "An activation of a function has its own local variables");
    PointerAnalyzer after = ran("b=f1(a);b=f1(a)", "y=x;x=&a");
    Due.same("not those of one before", after.observed(Make.y(1)), 0);
    PointerAnalyzer inside = ran("y=x;x=&a;b=f0(a)");
    Due.same("not those of one that is open", inside.observed(Make.y(0)), 0);
    PointerAnalyzer back = ran("x=&a;b=f1(b);y=x", "x=&b;c=f2(c);y=x", "x=&c");
    Due.same("x of 0 is as it was", back.observed(Make.y(0)), Make.set(Make.A));
    Due.same("x of 1 is as it was", back.observed(Make.y(1)), Make.set(Make.B));
    PointerAnalyzer result = ran("a=f1(a);b=a", "r=&a;c=f2(c)", "r=&b");
    Due.same("r of 1 is as it was", result.observed(Make.A), Make.set(Make.A));
    Due.same("globals are those of all", ran("a=f1(b);b=c", "c=&d").observed(Make.B),
        Make.set(Make.D));
  }

  private static void nullAtFirst() {
    Sentence.of(0, "all variables and all fields are null at first");
    for (String name : new String[] {"a", "b", "c", "d", "p", "r", "x", "y"}) {
      Due.same(name, ran("*" + name + "=" + name).faults(), 1);
    }
    PointerAnalyzer fields = ran("a=new;b=*a;*b=a;c=a+1;b=*c;*b=a;c=a+2;b=*c;*b=a");
    Due.same("fields", fields.faults(), 3);
    PointerAnalyzer again = Make.with("*a=a;b=*x;a=&x;x=new");
    for (int time = 0; time < 3; time++) {
      again.run();
      Due.same("at first in each run", again.faults(), 2);
    }
    PointerAnalyzer locals = ran("a=f1(a);*a=a;a=f1(a);*a=a", "*x=x;*y=y;*r=r;*p=p;x=&x;y=x;p=y");
    Due.same("those of each activation", locals.faults(), 2 * 4 + 2);
  }

  private static void inTheirOrder() {
    Sentence.of(0, "The statements of the body are executed in their order.");
    Due.same("one before", ran("a=&b;c=a").observed(Make.C), Make.set(Make.B));
    Due.same("one behind", ran("c=a;a=&b").observed(Make.C), 0);
    Due.same("again and again", ran("a=&b;c=a;a=&d;d=a").observed(Make.C), Make.set(Make.B));
    Due.same("the latest", ran("a=&b;c=a;a=&d;d=a").observed(Make.D), Make.set(Make.D));
    Due.same("twelve", ran("a=&b;b=a;c=b;d=c;x=d;y=x;p=y;r=p;*a=r;a=*r;d=a;c=&c").run(), 12);
  }

  private static void newObjects() {
    Sentence.of(0, "\"v=new\" makes a new object.");
    PointerAnalyzer twice = ran("x=f1(x);y=f1(x);*x=y;a=*y;b=*x", "r=new");
    Due.same("two", twice.objects(), 2);
    Due.same("the second has a null field", twice.observed(Make.A), 0);
    Due.same("the first has not", twice.observed(Make.B), Make.set(Make.field(0, 0)));
    Due.same("field 0 of it", ran("x=new").observed(Make.x(0)), Make.set(Make.field(0, 0)));
  }

  private static void throughNull() {
    Sentence.of(0, "A statement that reads or writes through a null pointer is a fault");
    Due.same("reads", ran("a=*b").faults(), 1);
    Due.same("writes", ran("*a=b").faults(), 1);
    Due.same("writes null through null", ran("*a=a").faults(), 1);
    Due.same("reads null", ran("b=&c;a=*b").faults(), 0);
    Due.same("writes null", ran("a=&c;*a=b").faults(), 0);
    Due.same("a copy of null", ran("a=b").faults(), 0);
    Due.same("a call with null", ran("a=f1(b)").faults(), 0);
    Due.same("the second time", ran("b=&c;b=*b;b=*b").faults(), 1);
  }

  private static void offsets() {
    Sentence.of(0, "and so is \"v=w+n\" if w is not null, n is not 0, and w does not point to a "
        + "field i with i + n at most 2");
    for (int field = 0; field < 3; field++) {
      for (int offset = 0; offset < 3; offset++) {
        PointerAnalyzer analyzer =
            ran("x=new;y=new;x=new;p=y+" + field + ";a=&b;a=p+" + offset + ";c=a");
        boolean fault = field + offset > 2;
        Due.same("fault of " + field + " + " + offset, analyzer.faults(), fault ? 1 : 0);
        Due.same("target of " + field + " + " + offset, analyzer.observed(Make.C),
            fault ? Make.set(Make.B) : Make.set(Make.field(1, field + offset)));
      }
    }
    for (int offset = 0; offset < 3; offset++) {
      Due.same("a variable + " + offset, ran("a=&b;a=a+" + offset).faults(), offset == 0 ? 0 : 1);
      for (char name : Oracle.NAMES.toCharArray()) {
        Due.same("one of all variables + " + offset,
            ran("a=f3(a)", "", "", "a=&" + name + ";x=a+" + offset).faults(), offset == 0 ? 0 : 1);
      }
      Due.same("null + " + offset, ran("a=b+" + offset).faults(), 0);
    }
    PointerAnalyzer each = ran("a=new;b=a+1;c=a+2;*a=a;*b=b;*c=c");
    for (int field = 0; field < 3; field++) {
      Due.same("a field of its own", each.fieldObserved(0, field),
          Make.set(Make.field(0, field)));
    }
  }

  private static void faultsHaveNoEffect() {
    Sentence.of(0, "a fault has no effect");
    PointerAnalyzer load = ran("a=&b;a=*c;d=a");
    Due.same("a load", load.observed(Make.D), Make.set(Make.B));
    PointerAnalyzer store = ran("b=&c;*a=b;x=a");
    Due.same("a store", store.observed(Make.A) | store.observed(Make.x(0)), 0);
    PointerAnalyzer offset = ran("a=&b;a=a+1;d=a;x=new;y=x+2;y=y+1;p=y");
    Due.same("an offset of a variable", offset.observed(Make.D), Make.set(Make.B));
    Due.same("an offset of a field", offset.observed(Make.p(0)), Make.set(Make.field(0, 2)));
    PointerAnalyzer counted = Make.with("a=*c;*c=a;a=&b;a=a+1");
    Due.same("but it is executed", counted.run(), 4);
  }

  private static void offsetOfNull() {
    Sentence.of(0, "\"v=w+n\" with w null makes v null.");
    for (int offset = 0; offset < 3; offset++) {
      PointerAnalyzer analyzer = ran("a=&b;a=c+" + offset + ";d=a;*a=b");
      Due.same("+ " + offset, analyzer.observed(Make.D), 0);
      Due.same("null by + " + offset, analyzer.faults(), 1);
    }
  }

  private static void calls() {
    Sentence.of(0, "A call makes a new activation, whose p gets the value of w, executes the body, "
        + "and then v gets the value of r");
    PointerAnalyzer analyzer = ran("a=&b;c=f3(a);d=c", "", "", "x=p;r=&y;p=&x");
    Due.same("p and then x", analyzer.observed(Make.x(3)), Make.set(Make.B));
    Due.same("c and then d", analyzer.observed(Make.D), Make.set(Make.y(3)));
    Due.same("p alone", analyzer.observed(Make.r(3)), Make.set(Make.y(3)));
    Due.same("r at the end", ran("a=f1(a)", "r=&x;r=&y").observed(Make.A), Make.set(Make.y(1)));
    PointerAnalyzer before = ran("a=&b;a=f1(a)", "y=a;r=p");
    Due.same("v is as it was in the body", before.observed(Make.y(1)), Make.set(Make.B));
    PointerAnalyzer changed = ran("a=&b;x=f1(a)", "a=&c;y=p");
    Due.same("the value that w had", changed.observed(Make.y(1)), Make.set(Make.B));
    PointerAnalyzer own = ran("x=f1(x);y=x", "r=&r;x=&x");
    Due.same("v of the caller", own.observed(Make.y(0)), Make.set(Make.r(1)));
    Due.same("x of the callee", own.observed(Make.x(1)), Make.set(Make.x(1)));
    Due.same("the result of the first goes nowhere", ran("r=&b").observed(Make.A), 0);
    PointerAnalyzer empty = ran("a=&b;c=&d;c=f1(a);d=c");
    Due.same("p of an empty body", empty.observed(Make.p(1)), Make.set(Make.B));
    Due.same("its result", empty.observed(Make.D), 0);
  }

  private static void sixActivations() {
    Sentence.of(0, "a call has no effect if 6 activations are open");
    Due.same("one each", Make.with("a=f0(b)").run(), 6);
    Due.same("the sixth is made", Make.with("a=f0(b);b=c").run(), 12);
    Due.same("of several functions", Make.with("a=f1(b);b=b", "a=f2(b);b=b", "a=f3(b);b=b",
        "a=f0(b);b=b").run(), 12);
    PointerAnalyzer v = ran("a=&b;x=&c;x=f0(a);y=x");
    Due.same("v is as it was in the sixth alone", v.observed(Make.y(0)), Make.set(Make.C));
    PointerAnalyzer p = ran("d=p;p=&a;x=f0(b);x=p;y=f1(x)", "r=p");
    Due.same("no p is changed", p.observed(Make.x(0)), Make.set(Make.A));
    Due.same("no activation, no p", ran("a=f1(a)", "a=f1(a)", "").observed(Make.p(2)), 0);
    PointerAnalyzer fifth = ran("x=f1(x)", "x=f2(x)", "x=f3(x)", "x=f3(x);a=&b;c=f2(a)");
    Due.same("from the fifth", fifth.observed(Make.p(2)), Make.set(Make.B));
    Due.same("those that are over do not count",
        Make.with("a=f1(b);a=f1(b);a=f1(b)", "a=f2(b);a=f2(b)").run(), 3 + 6);
  }

  private static void pointersThatStay() {
    Sentence.of(0, "Pointers to variables of activations that are over can still be used.");
    PointerAnalyzer analyzer = ran("a=f1(a);b=*a;*a=a;c=*a;d=f1(c);d=*d", "r=&x;x=&y");
    Due.same("read", analyzer.observed(Make.B), Make.set(Make.y(1)));
    Due.same("written and read", analyzer.observed(Make.C), Make.set(Make.x(1)));
    Due.same("not that of the next activation", analyzer.observed(Make.D),
        Make.set(Make.x(1), Make.y(1)));
    Due.same("observed", analyzer.observed(Make.x(1)), Make.set(Make.x(1), Make.y(1)));
    Due.same("without faults", analyzer.faults(), 0);
    PointerAnalyzer kept = ran("a=f1(a);b=f2(b);c=*a", "r=&x;x=&a", "x=&b;y=&b;p=&b;r=&b");
    Due.same("their room is not used again", kept.observed(Make.C), Make.set(Make.A));
  }

  private static void twoHundredStatements() {
    Sentence.of(0, "The run is over after 200 executed statements, where a call counts before the "
        + "statements of the body");
    Due.same("199", Make.fromStatement190(9, "a=&b", "").run(), 199);
    Due.same("200", Make.fromStatement190(10, "a=&b", "").run(), 200);
    Due.same("201", Make.fromStatement190(11, "a=&b", "").run(), 200);
    Due.same("many more", Make.with("a=f0(a);a=f0(a);a=f0(a);a=f0(a);a=f0(a)").run(), 200);
    Due.same("number 200", ran(10, "a=&b", "").observed(Make.A), Make.set(Make.B));
    Due.same("number 201", ran(11, "a=&b", "").observed(Make.A), 0);
    Due.same("object 200", ran(10, "a=new", "").objects(), 1);
    Due.same("object 201", ran(11, "a=new", "").objects(), 0);
    Due.same("fault 200", ran(10, "*a=b", "").faults(), 1);
    Due.same("fault 201", ran(11, "*a=b", "").faults(), 0);
    // 31 activations make 4 objects each, all of which are kept, before the last ones come.
    PointerAnalyzer late = ran("x=f1(x);a=new;*a=a;b=*a;x=f2(a);c=*x;d=*c",
        "x=f1(x);x=f1(x);x=new;x=new;x=new;x=new", "y=p;r=&y");
    Due.same("objects", late.objects(), 31 * 4 + 1);
    Due.same("a late object", late.observed(Make.B), 1L << 20);
    Due.same("a late activation", late.observed(Make.C), 1L << 20);
    Due.same("both together", late.observed(Make.D), 1L << 20);
    Due.same("all of them executed", late.run(), 1 + 186 + 6 + 2);
    PointerAnalyzer inside = ran(8, "a=&b;c=f2(a)", "y=p;x=p");
    Due.same("a call as 199 and its body's first as 200", inside.observed(Make.y(2)),
        Make.set(Make.B));
    Due.same("its body's second as 201", inside.observed(Make.x(2)), 0);
    Due.same("executed", inside.run(), 200);
  }

  private static void openCalls() {
    Sentence.of(0, "calls that are open then have no further effect");
    PointerAnalyzer before = ran(7, "a=&b;c=f2(a)", "r=p");
    Due.same("199 is the last of the body", before.run(), 199);
    Due.same("so v gets the result", before.observed(Make.C), Make.set(Make.B));
    PointerAnalyzer last = ran(8, "a=&b;c=f2(a)", "r=p");
    Due.same("200 is the last of the body", last.run(), 200);
    Due.same("r has it", last.observed(Make.r(2)), Make.set(Make.B));
    Due.same("v does not get it", last.observed(Make.C), 0);
    PointerAnalyzer more = ran(8, "a=&b;c=f2(a);d=a", "r=p;r=a");
    Due.same("200 is not the last of the body", more.observed(Make.C), 0);
    Due.same("nor is the caller's body continued", more.observed(Make.D), 0);
  }

  private static void lastStatementIsCall() {
    Sentence.of(0, "if the last one of these statements is a call, it has no effect");
    PointerAnalyzer last = ran(9, "a=&b;c=f2(a)", "r=p");
    Due.same("executed", last.run(), 200);
    Due.same("p gets nothing", last.observed(Make.p(2)), 0);
    Due.same("v gets nothing", last.observed(Make.C), 0);
    PointerAnalyzer empty = ran(9, "a=&b;c=f2(a)", "");
    Due.same("p of an empty body gets nothing", empty.observed(Make.p(2)), 0);
    PointerAnalyzer before = ran(8, "a=&b;c=f2(a);d=a", "");
    Due.same("the last one but one has its effect", before.observed(Make.p(2)),
        Make.set(Make.B));
    Due.same("and the last one, too", before.observed(Make.D), Make.set(Make.B));
    PointerAnalyzer over = ran(10, "a=&b;c=f2(a)", "r=p");
    Due.same("number 201 is not executed", over.run(), 200);
    Due.same("p gets nothing", over.observed(Make.p(2)), 0);
  }

  private static void observedAtSomeTime() {
    Sentence.of(0, "if at some time during the run this variable, of any activation, or this "
        + "field, of any object of the site, has a pointer to this target");
    PointerAnalyzer times = ran("a=&b;a=&c;a=d;*x=a");
    Due.same("at some time", times.observed(Make.A), Make.set(Make.B, Make.C));
    PointerAnalyzer activations = ran("a=&b;x=f1(a);a=&c;x=f1(a)", "y=p");
    Due.same("of any activation", activations.observed(Make.y(1)), Make.set(Make.B, Make.C));
    PointerAnalyzer objects = ran("x=f1(x);y=f1(x);a=&b;*x=a;a=&c;*y=a", "r=new");
    Due.same("of any object", objects.fieldObserved(0, 0), Make.set(Make.B, Make.C));
    PointerAnalyzer through = ran("a=&x;b=&c;*a=b;*a=d");
    Due.same("by a store", through.observed(Make.x(0)), Make.set(Make.C));
    PointerAnalyzer parameters = ran("a=&b;x=f1(a);x=f1(x)", "p=c");
    Due.same("as a parameter", parameters.observed(Make.p(1)), Make.set(Make.B));
    PointerAnalyzer kept = ran("a=&x;x=&b;x=f1(a)", "y=*p");
    Due.same("the target by its variable", kept.observed(Make.p(1)), Make.set(Make.x(0)));
    Due.same("and what is in it", kept.observed(Make.y(1)), Make.set(Make.B));
  }

  private static void refusedCallsCount() {
    Sentence.of(0, "A call that has no effect because too many activations are open counts as an "
        + "executed statement.");
    Due.same("one in the sixth", Make.with("a=f0(a)").run(), 6);
    Due.same("two in the sixth", Make.with("a=f1(a)", "a=f2(a)", "a=f3(a);a=b", "a=f3(a);a=f3(a)")
        .run(), 1 + 1 + 2 + 2 + 4 + 8);
    Due.same("they bring the end near",
        Make.with("a=f0(a);a=f0(a);a=f0(a)").run(), 200);
  }

  private static void storesOfNull() {
    Sentence.of(0, "A store with a null value on its right side makes the target null.");
    PointerAnalyzer variable = ran("a=&b;b=&c;*a=d;x=b;*b=a");
    Due.same("a variable", variable.observed(Make.x(0)), 0);
    Due.same("is null", variable.faults(), 1);
    PointerAnalyzer field = ran("a=new;*a=a;*a=d;x=*a;*x=a");
    Due.same("a field", field.observed(Make.x(0)), 0);
    Due.same("is null", field.faults(), 1);
    PointerAnalyzer itself = ran("a=&a;*a=b;*a=a");
    Due.same("the pointer itself", itself.faults(), 1);
  }

  private static void resultsThatNeverWere() {
    Sentence.of(0, "A variable that gets the value of a result that never got one becomes null.");
    PointerAnalyzer analyzer = ran("a=&b;a=f1(a);x=a;*a=b", "x=p");
    Due.same("x", analyzer.observed(Make.x(0)), 0);
    Due.same("a is null", analyzer.faults(), 1);
    PointerAnalyzer empty = ran("a=&b;a=f3(a);*a=b");
    Due.same("of an empty body", empty.faults(), 1);
    PointerAnalyzer before = ran("a=&b;b=&c;x=f1(a);x=f1(d);*x=x", "r=*p");
    Due.same("a result", before.observed(Make.x(0)), Make.set(Make.C));
    Due.same("not the result of a call before", before.faults(), 2);
    PointerAnalyzer other = ran("a=&b;c=f1(a);c=f1(d);*c=a;r=&a;c=f2(d);*c=c", "r=p");
    Due.same("nor that of another activation or function", other.faults(), 2);
  }

  // Promises 30 to 34

  private static void run() {
    runAnswer();
    runRange();
  }

  private static void runAnswer() {
    Sentence.of(30, "Makes a run, and keeps what is observed in it in place of what was observed "
        + "before.");
    PointerAnalyzer analyzer = Make.with("a=new;*a=a;b=*c");
    for (int time = 0; time < 3; time++) {
      Due.same("run", analyzer.run(), 3);
      Due.same("objects do not add up", analyzer.objects(), 1);
      Due.same("faults do not add up", analyzer.faults(), 1);
      Due.same("observed", analyzer.observed(Make.A), 1L << 20);
    }
    Make.body(analyzer, 0, "b=&c");
    analyzer.run();
    Due.same("not what was before", analyzer.observed(Make.A), 0);
    Due.same("but what is now", analyzer.observed(Make.B), Make.set(Make.C));
  }

  private static void runRange() {
    Sentence.of(30, "Returns the number of executed statements.");
    Due.same("none", new PointerAnalyzer().run(), 0);
    Due.same("one", Make.with("a=b").run(), 1);
    Due.same("a function that is called twice", Make.with("a=f1(a);a=f1(a)", "b=b;b=b").run(), 6);
    Due.same("not a function that is not called", Make.with("a=b", "b=b", "a=f1(a)").run(), 1);
    Due.same("all of 48", Make.with(Make.times("a=b", 11) + ";a=f1(a)", Make.times("a=b", 11)
        + ";a=f2(a)", Make.times("a=b", 11) + ";a=f3(a)", Make.times("a=b", 12)).run(), 48);
  }

  private static final String[] RUNS = {"a=&b;x=f3(a);d=new;*d=d;*c=a", "", "", "y=p"};

  /** Runs, and does what may bring the run to be forgotten; then as much is known as is due. */
  private static void afterwards(Look look) {
    PointerAnalyzer fresh = Make.with(RUNS);
    look.at("no run", fresh, false);
    fresh.run();
    look.at("a run", fresh, true);
    PointerAnalyzer kept = Make.with(RUNS);
    kept.save();
    kept.run();
    kept.setLimit(2);
    kept.save();
    kept.factCount();
    Make.type(kept, "a=");
    look.at("no setBody or restore", kept, true);
    Due.noArgument("a fault", () -> kept.setBody(0));
    Due.noIndex("no function", () -> kept.setBody(4));
    Make.type(kept, Make.times("a=b", 13));
    Due.noState("too many", () -> kept.setBody(0));
    look.at("setBody without success", kept, true);
    kept.restore();
    look.at("restore", kept, false);
    kept.run();
    look.at("a run after restore", kept, true);
    Make.body(kept, 2, "");
    look.at("setBody of an empty body by an empty one", kept, false);
    kept.run();
    kept.run();
    Make.body(kept, 0, RUNS[0]);
    look.at("setBody of the same body", kept, false);
    PointerAnalyzer unsaved = Make.with(RUNS);
    unsaved.run();
    Due.noState("nothing saved", unsaved::restore);
    look.at("restore without success", unsaved, true);
  }

  private interface Look {
    void at(String what, PointerAnalyzer analyzer, boolean known);
  }

  private static void observed() {
    observedAnswer();
    observedOfVariable();
    observedSet();
    observedThrowsIndex();
  }

  private static PointerAnalyzer observedEnds() {
    return ran(RUNS);
  }

  private static void observedAnswer() {
    Sentence.of(31, "Returns the targets to which a variable was observed to point in the latest "
        + "run.");
    PointerAnalyzer analyzer = ran("a=&b;b=&c;d=*a;a=&x");
    Due.same("a", analyzer.observed(Make.A), Make.set(Make.B, Make.x(0)));
    Due.same("d", analyzer.observed(Make.D), Make.set(Make.C));
  }

  private static void observedOfVariable() {
    Sentence.of(31, "variable: the number of the variable, 0 to 19");
    PointerAnalyzer ends = observedEnds();
    Due.same("the first", ends.observed(0), Make.set(Make.B));
    Due.same("the last", ends.observed(19), Make.set(Make.B));
  }

  private static void observedSet() {
    Sentence.of(31, "Returns the set of targets, 0 if there was no run since the latest successful "
        + "call of setBody or restore.");
    afterwards((what, kept, known) ->
        Due.same(what, kept.observed(Make.A), known ? Make.set(Make.B) : 0));
    Due.same("a new one", new PointerAnalyzer().observed(0), 0);
    PointerAnalyzer far = ran(Make.times("a=new", 8) + ";a=a+2;a=&y;a=&a");
    Due.same("up to bit 43", far.observed(Make.A), 0x249249L << 20 | 1L << 43 | 129);
  }

  private static void observedThrowsIndex() {
    Sentence.of(31, "Throws IndexOutOfBoundsException if there is no such variable");
    PointerAnalyzer ends = observedEnds();
    for (int variable : Make.outside(20)) {
      Due.noIndex("variable " + variable, () -> ends.observed(variable));
      Due.noIndex("without a run " + variable, () -> new PointerAnalyzer().observed(variable));
    }
  }

  private static void fieldObserved() {
    fieldObservedAnswer();
    fieldObservedOfSite();
    fieldObservedOfField();
    fieldObservedSet();
    fieldObservedThrowsIndex();
  }

  private static PointerAnalyzer fieldObservedAnalyzer() {
    return ran("a=new;b=new;*a=b;c=b+1;*c=a;*c=b");
  }

  private static PointerAnalyzer fieldObservedEight() {
    return ran(Make.times("a=new", 7) + ";b=new;*b=b;c=b+2;*c=c");
  }

  private static void fieldObservedAnswer() {
    Sentence.of(32, "Returns the targets to which a field of a site was observed to point in the "
        + "latest run.");
    PointerAnalyzer analyzer = fieldObservedAnalyzer();
    Due.same("field 0 of site 0", analyzer.fieldObserved(0, 0), Make.set(Make.field(1, 0)));
    Due.same("field 1 of site 1", analyzer.fieldObserved(1, 1),
        Make.set(Make.field(0, 0), Make.field(1, 0)));
    Due.same("field 1 of site 0", analyzer.fieldObserved(0, 1), 0);
  }

  private static void fieldObservedOfSite() {
    Sentence.of(32, "site: the site");
    PointerAnalyzer eight = fieldObservedEight();
    Due.same("the last", eight.fieldObserved(7, 0), Make.set(Make.field(7, 0)));
    Due.same("the first", eight.fieldObserved(0, 0), 0);
  }

  private static void fieldObservedOfField() {
    Sentence.of(32, "field: the field, 0 to 2");
    PointerAnalyzer eight = fieldObservedEight();
    Due.same("the last", eight.fieldObserved(7, 2), Make.set(Make.field(7, 2)));
    Due.same("the one before", eight.fieldObserved(7, 1), 0);
  }

  private static void fieldObservedSet() {
    Sentence.of(32, "Returns the set of targets, 0 if there was no run since the latest successful "
        + "call of setBody or restore.");
    afterwards((what, kept, known) ->
        Due.same(what, kept.fieldObserved(0, 0), known ? 1L << 20 : 0));
  }

  private static void fieldObservedThrowsIndex() {
    Sentence.of(32, "Throws IndexOutOfBoundsException if there is no such site or field");
    PointerAnalyzer eight = fieldObservedEight();
    PointerAnalyzer analyzer = fieldObservedAnalyzer();
    for (int site : Make.outside(2)) {
      Due.noIndex("site " + site, () -> analyzer.fieldObserved(site, 0));
    }
    for (int site : Make.outside(8)) {
      Due.noIndex("site of 8: " + site, () -> eight.fieldObserved(site, 2));
    }
    for (int site : Make.outside(0)) {
      Due.noIndex("site of none: " + site, () -> new PointerAnalyzer().fieldObserved(site, 0));
    }
    for (int field : Make.outside(3)) {
      Due.noIndex("field of the first site: " + field, () -> analyzer.fieldObserved(0, field));
      Due.noIndex("field of the last site: " + field, () -> eight.fieldObserved(7, field));
    }
    Make.body(eight, 0, "a=new");
    Due.noIndex("a site that was once right", () -> eight.fieldObserved(1, 0));
  }

  private static void faults() {
    faultsAnswer();
    faultsRange();
  }

  private static void faultsAnswer() {
    Sentence.of(33, "Returns the number of faults of the latest run.");
    Due.same("each kind", ran("a=*b;*b=a;a=&a;c=a+1;c=a+2;x=new;y=x+2;y=y+1").faults(), 5);
    PointerAnalyzer latest = ran("*a=b;*a=b");
    Due.same("two", latest.faults(), 2);
    Make.body(latest, 0, "*a=b");
    latest.run();
    Due.same("of the latest run", latest.faults(), 1);
  }

  private static void faultsRange() {
    Sentence.of(33, "Returns the number of faults, 0 if there was no run since the latest "
        + "successful call of setBody or restore.");
    afterwards((what, kept, known) -> Due.same(what, kept.faults(), known ? 1 : 0));
    Due.same("a new one", new PointerAnalyzer().faults(), 0);
    Due.same("none", ran("a=b").faults(), 0);
    PointerAnalyzer most = Make.with("a=f0(b);a=f0(b);*b=b;*b=b;*b=b;*b=b;*b=b;*b=b;*b=b;*b=b");
    Due.same("run", most.run(), 200);
    Due.same("in all activations", most.faults() > 100, true);
  }

  private static void objects() {
    objectsAnswer();
    objectsRange();
  }

  private static void objectsAnswer() {
    Sentence.of(34, "Returns the number of objects that were made in the latest run.");
    Due.same("of three sites", ran("a=new;a=new;b=new").objects(), 3);
    Due.same("of one site", ran("a=f1(a);a=f1(a);a=f1(a)", "r=new").objects(), 3);
    Due.same("not of an unreachable site", ran("a=new", "a=new").objects(), 1);
  }

  private static void objectsRange() {
    Sentence.of(34, "Returns the number of objects, 0 if there was no run since the latest "
        + "successful call of setBody or restore.");
    afterwards((what, kept, known) -> Due.same(what, kept.objects(), known ? 1 : 0));
    Due.same("a new one", new PointerAnalyzer().objects(), 0);
    Due.same("none", ran("a=b").objects(), 0);
    // 17 activations make all of their 8, and the last one makes 7.
    PointerAnalyzer most = Make.with(Make.times("a=new", 8) + ";b=f0(b);b=f0(b);b=f0(b);b=f0(b)");
    Due.same("run", most.run(), 200);
    Due.same("the most", most.objects(), 17 * 8 + 7);
  }
}
