/** The sentences on cells and the inclusion analysis, and those of the promises 13 to 19. */
final class InclusionSentences {
  private static final String[] TWO_CALLS = {"x=&a;y=&b;c=f1(x);d=f1(y)", "r=p"};

  private InclusionSentences() {
  }

  static void all() {
    cells();
    cellsStandForTargets();
    smallestSet();
    address();
    copy();
    load();
    store();
    allocation();
    offset();
    call();
    mostCells();
    forSomeOfItsCells();
    pointsTo();
    pointsToIn();
    fieldPointsTo();
    factCount();
    mayAlias();
    reach();
    escapingSites();
  }

  // The description

  private static void cells() {
    Sentence.of(0, "A cell is a global variable, a local variable together with a context of its "
        + "function, or a field of a site.");
    PointerAnalyzer global = Make.with(1, "a=f1(c);a=f1(d)", "b=&d");
    Due.same("a global is one cell in all contexts", global.factCount(), 1);
    PointerAnalyzer local = Make.with(1, "a=f1(c);a=f1(d)", "x=&d");
    Due.same("a local is a cell in each context", local.factCount(), 2);
    PointerAnalyzer field = Make.with(1, "a=f1(c);a=f1(d)", "b=new;*b=b");
    Due.same("a field is one cell in all contexts", field.factCount(), 2);
  }

  private static void cellsStandForTargets() {
    Sentence.of(0, "A cell stands for a target, namely for its variable, whatever the context is, "
        + "or for its field.");
    PointerAnalyzer analyzer = Make.with(1, "a=f1(c);a=f1(d)", "r=&x;b=new;c=b+2");
    Due.same("two cells of a local", analyzer.pointsTo(Make.A), Make.set(Make.x(1)));
    Due.same("its cell in context 1", analyzer.pointsToIn(Make.r(1), 1), Make.set(Make.x(1)));
    Due.same("a field", analyzer.pointsTo(Make.C), Make.set(Make.field(0, 2)));
    // a to x in two contexts, r in each to its own, b and c; and c by p of both contexts
    Due.same("facts tell them apart", analyzer.factCount(), 2 + 2 + 2 + 1);
  }

  private static void smallestSet() {
    Sentence.of(0, "are the smallest set with the following properties, for each function, each of "
        + "its contexts and each statement of its body");
    Due.same("no statement", new PointerAnalyzer().factCount(), 0);
    Due.same("nothing to begin with",
        Make.with("a=b;b=a;*a=b;b=*a;c=a+0;d=a+1;x=f1(a)", "r=p").factCount(), 0);
    PointerAnalyzer unreachable = Make.with("a=f1(b)", "", "c=&d;x=new", "a=f2(a);d=&d");
    Due.same("no context", unreachable.factCount(), 0);
    PointerAnalyzer twelve = Make.with("a=b;b=c;c=d;d=x;x=y;y=p;p=r;r=&r");
    Due.same("against the order", twelve.factCount(), 8);
    Due.same("the last statement of 48", Make.with(Make.times("c=d", 11) + ";c=f3(d)",
        Make.times("c=d", 12), Make.times("c=d", 12), Make.times("c=d", 11) + ";a=&b").factCount(),
        1);
  }

  private static void address() {
    Sentence.of(0, "\"v=&w\": v points to w.");
    Due.same("another", Make.with("a=&b").pointsTo(Make.A), Make.set(Make.B));
    Due.same("not the other way", Make.with("a=&b").pointsTo(Make.B), 0);
    Due.same("itself", Make.with("x=&x").pointsTo(Make.x(0)), Make.set(Make.x(0)));
  }

  private static void copy() {
    Sentence.of(0, "\"v=w\": v points to all that w points to.");
    Due.same("all", Make.with("a=b;b=&c;b=&d;b=new").pointsTo(Make.A),
        Make.set(Make.C, Make.D, Make.field(0, 0)));
    Due.same("not the other way", Make.with("a=b;a=&c").pointsTo(Make.B), 0);
    Due.same("nothing", Make.with("a=b").pointsTo(Make.A), 0);
    Due.same("itself", Make.with("a=a").pointsTo(Make.A), 0);
  }

  private static void load() {
    Sentence.of(0, "\"v=*w\": v points to all that is pointed to by cells to which w points.");
    PointerAnalyzer analyzer = Make.with("a=*b;b=&c;b=&d;c=&x;d=&y;b=&p");
    Due.same("by two of three", analyzer.pointsTo(Make.A), Make.set(Make.x(0), Make.y(0)));
    Due.same("by none", Make.with("a=*b").pointsTo(Make.A), 0);
    Due.same("by an empty one", Make.with("a=*b;b=&c").pointsTo(Make.A), 0);
    Due.same("by itself", Make.with("a=&a;a=&b;b=&c;a=*a").pointsTo(Make.A),
        Make.set(Make.A, Make.B, Make.C));
    PointerAnalyzer field = Make.with("x=new;y=x+2;*y=y;a=*y;b=*x");
    Due.same("by a field", field.pointsTo(Make.A), Make.set(Make.field(0, 2)));
    Due.same("by another field", field.pointsTo(Make.B), 0);
  }

  private static void store() {
    Sentence.of(0, "\"*v=w\": each cell to which v points, points to all that w points to.");
    PointerAnalyzer analyzer = Make.with("*a=b;a=&c;a=&d;a=new;b=&x;b=&y");
    long due = Make.set(Make.x(0), Make.y(0));
    Due.same("one", analyzer.pointsTo(Make.C), due);
    Due.same("another", analyzer.pointsTo(Make.D), due);
    Due.same("a field", analyzer.fieldPointsTo(0, 0), due);
    Due.same("not another field", analyzer.fieldPointsTo(0, 1), 0);
    Due.same("not v", analyzer.pointsTo(Make.A) & due, 0);
    Due.same("to none", Make.with("*a=b;b=&c").factCount(), 1);
    Due.same("of nothing", Make.with("*a=b;a=&c").factCount(), 1);
    Due.same("itself", Make.with("*a=a;a=&a;a=&b").pointsTo(Make.B), Make.set(Make.A, Make.B));
  }

  private static void allocation() {
    Sentence.of(0, "\"v=new\": v points to field 0 of the site.");
    PointerAnalyzer analyzer = Make.with(Make.times("a=new", 7) + ";b=new");
    Due.same("the last site", analyzer.pointsTo(Make.B), Make.set(Make.field(7, 0)));
    Due.same("all others", analyzer.pointsTo(Make.A), 0x49249L << 20);
  }

  private static void offset() {
    Sentence.of(0, "\"v=w+n\": if w points to a cell, then v points to the same cell if n is 0, "
        + "and if the cell is field i of a site and i + n is at most 2, v points to field i + n");
    for (int field = 0; field < 3; field++) {
      for (int offset = 0; offset < 3; offset++) {
        PointerAnalyzer analyzer = Make.with(
            "x=new;y=new;x=new;p=y+" + field + ";a=p+" + offset);
        Due.same("field " + field + " + " + offset, analyzer.pointsTo(Make.A),
            field + offset > 2 ? 0 : Make.set(Make.field(1, field + offset)));
      }
    }
    for (int offset = 0; offset < 3; offset++) {
      Due.same("a variable + " + offset, Make.with("b=&c;a=b+" + offset).pointsTo(Make.A),
          offset > 0 ? 0 : Make.set(Make.C));
      Due.same("nothing + " + offset, Make.with("a=b+" + offset).pointsTo(Make.A), 0);
    }
    PointerAnalyzer last = Make.with(Make.times("a=new", 7) + ";b=new;c=b+2;d=c+1");
    Due.same("field 2 of the last site", last.pointsTo(Make.C), Make.set(Make.field(7, 2)));
    Due.same("no field behind it", last.pointsTo(Make.D), 0);
    PointerAnalyzer itself = Make.with("a=new;a=a+1;a=&b");
    Due.same("again and again", itself.pointsTo(Make.A), Make.set(Make.B) | 7L << 20);
    PointerAnalyzer twos = Make.with("a=new;a=a+2");
    Due.same("by twos", twos.pointsTo(Make.A), 5L << 20);
  }

  private static void call() {
    Sentence.of(0, "p of the function, with the context that the call leads to, points to all that "
        + "w points to; and v points to all that r of the function, with that context, points to.");
    PointerAnalyzer mixed = Make.with(0, TWO_CALLS);
    Due.same("one context", mixed.pointsTo(Make.C), Make.set(Make.A, Make.B));
    PointerAnalyzer apart = Make.with(1, TWO_CALLS);
    Due.same("p in context 0", apart.pointsToIn(Make.p(1), 0), Make.set(Make.A));
    Due.same("p in context 1", apart.pointsToIn(Make.p(1), 1), Make.set(Make.B));
    Due.same("v by the first", apart.pointsTo(Make.C), Make.set(Make.A));
    Due.same("v by the second", apart.pointsTo(Make.D), Make.set(Make.B));
    PointerAnalyzer empty = Make.with("a=&b;a=f1(a);c=f1(c)");
    Due.same("p of an empty body", empty.pointsTo(Make.p(1)), Make.set(Make.B));
    Due.same("no result", empty.pointsTo(Make.C), 0);
    PointerAnalyzer itself = Make.with(2, "x=&y;r=p;y=f0(x)");
    Due.same("p in the empty context", itself.pointsToIn(Make.p(0), 0), 0);
    Due.same("p in [2]", itself.pointsToIn(Make.p(0), 1), Make.set(Make.y(0)));
    Due.same("y in the empty context", itself.pointsToIn(Make.y(0), 0), Make.set(Make.y(0)));
    // x of each of three contexts to y of it; p and r of [2] to y of [], of [2 2] to y of [2] and
    // [2 2]; y of [] as r of [2], y of [2] and [2 2] as r of [2 2]
    Due.same("facts", itself.factCount(), 3 + 2 * (1 + 2) + 1 + 2 + 2);
  }

  /** Function 0 has 31 contexts, so that there are as many cells as there can be. */
  private static void mostCells() {
    Sentence.of(0, "where v and w mean the cells of these variables, with this context if they are "
        + "local");
    PointerAnalyzer most = Make.with(2, "x=&y;x=&a;*x=x;p=y;r=*y;" + Make.times("b=f0(c)", 5));
    for (int context = 0; context < 31; context++) {
      long due = Make.set(Make.y(0), Make.A);
      Due.same("x in " + context, most.pointsToIn(Make.x(0), context), due);
      Due.same("y in " + context, most.pointsToIn(Make.y(0), context), due);
      Due.same("p in " + context, most.pointsToIn(Make.p(0), context), due);
      Due.same("r in " + context, most.pointsToIn(Make.r(0), context), due);
    }
    // x, y and p to y of the same context and to a; a to y of all contexts and to a, as r and b
    Due.same("facts", most.factCount(), 3 * 31 * 2 + 32 + 31 * 32 + 32);
    PointerAnalyzer own = Make.with(2, "r=&p;*r=r;x=*r;y=p+0;" + Make.times("b=f0(c)", 5));
    // Each local to p of the same context; b to p of those that a call leads to
    Due.same("facts of one context each", own.factCount(), 4 * 31 + 30);
  }

  private static void forSomeOfItsCells() {
    Sentence.of(0, "A variable points to a target if, for some of its cells, the cell points to a "
        + "cell that stands for the target.");
    PointerAnalyzer analyzer = Make.with(1, "x=&a;y=&b;c=f1(x);d=f1(y);c=f1(d)", "r=p;p=&x");
    Due.same("by the first", analyzer.pointsToIn(Make.p(1), 0), Make.set(Make.A, Make.x(1)));
    Due.same("by the second", analyzer.pointsToIn(Make.p(1), 1), Make.set(Make.B, Make.x(1)));
    Due.same("by all", analyzer.pointsTo(Make.p(1)), Make.set(Make.A, Make.B, Make.x(1)));
  }

  // Promise 13

  private static void pointsTo() {
    pointsToAnswer();
    pointsToOfVariable();
    pointsToSet();
    pointsToThrowsIndex();
  }

  private static PointerAnalyzer pointsToEnds() {
    return Make.with("a=&b;x=f3(x)", "", "", "y=&a");
  }

  private static void pointsToAnswer() {
    Sentence.of(13, "Returns the targets to which a variable points by the inclusion analysis.");
    PointerAnalyzer analyzer = Make.with("a=&b;a=&c");
    Due.same("a", analyzer.pointsTo(Make.A), Make.set(Make.B, Make.C));
    Make.body(analyzer, 0, "a=&d");
    Due.same("by the new body", analyzer.pointsTo(Make.A), Make.set(Make.D));
  }

  private static void pointsToOfVariable() {
    Sentence.of(13, "variable: the number of the variable, 0 to 19");
    PointerAnalyzer ends = pointsToEnds();
    Due.same("the first", ends.pointsTo(0), Make.set(Make.B));
    Due.same("the last", ends.pointsTo(19), Make.set(Make.A));
  }

  private static void pointsToSet() {
    Sentence.of(13, "Returns the set of targets.");
    for (int variable = 0; variable < 20; variable++) {
      Due.same("none", new PointerAnalyzer().pointsTo(variable), 0);
    }
    PointerAnalyzer many = Make.with("x=f1(x);x=f2(x);d=f3(d);" + Make.times("d=new", 8) + ";d=d+1",
        "d=&a;d=&b;d=&c;d=&d;d=&p;d=&r;d=&x;d=&y", "d=&p;d=&r;d=&x;d=&y;x=f3(x)",
        "d=&p;d=&r;d=&x;d=&y");
    Due.same("40 of 44", many.pointsTo(Make.D), (1L << 44) - 1 & ~0xf0L);
    many = Make.with("x=f1(x);d=&p;d=&r;d=&x;d=&y;" + Make.times("d=new", 7),
        "x=f2(x);d=new;d=d+1;d=&a;d=&b;d=&c;d=&d;d=&p;d=&r;d=&x;d=&y",
        "d=&p;d=&r;d=&x;d=&y;x=f3(x)", "d=&p;d=&r;d=&x;d=&y");
    Due.same("all 44", many.pointsTo(Make.D), (1L << 44) - 1);
  }

  private static void pointsToThrowsIndex() {
    Sentence.of(13, "Throws IndexOutOfBoundsException if there is no such variable");
    PointerAnalyzer ends = pointsToEnds();
    for (int variable : Make.outside(20)) {
      Due.noIndex("variable " + variable, () -> ends.pointsTo(variable));
    }
  }

  // Promise 14

  private static void pointsToIn() {
    pointsToInAnswer();
    pointsToInOfVariable();
    pointsToInOfContext();
    pointsToInSet();
    pointsToInThrowsIndex();
  }

  private static PointerAnalyzer pointsToInEnds() {
    return Make.with(1, "a=&b;x=f3(x);x=f3(a)", "", "", "y=&a;r=p");
  }

  private static PointerAnalyzer pointsToInMost() {
    return Make.with(2, "p=&p;" + Make.times("a=f0(b)", 4) + ";a=f0(p)");
  }

  private static void pointsToInAnswer() {
    Sentence.of(14, "Returns the targets to which a variable points in one context.");
    PointerAnalyzer analyzer = Make.with(1, TWO_CALLS);
    Due.same("in context 0", analyzer.pointsToIn(Make.r(1), 0), Make.set(Make.A));
    Due.same("in context 1", analyzer.pointsToIn(Make.r(1), 1), Make.set(Make.B));
    analyzer.setLimit(0);
    Due.same("in the only one", analyzer.pointsToIn(Make.r(1), 0), Make.set(Make.A, Make.B));
  }

  private static void pointsToInOfVariable() {
    Sentence.of(14, "variable: the number of the variable, 0 to 19");
    PointerAnalyzer ends = pointsToInEnds();
    Due.same("the first", ends.pointsToIn(0, 0), Make.set(Make.B));
    Due.same("the last", ends.pointsToIn(19, 1), Make.set(Make.A));
  }

  private static void pointsToInOfContext() {
    Sentence.of(14, "context: the number of a context of the function of the variable; 0 for a "
        + "global variable");
    PointerAnalyzer ends = pointsToInEnds();
    Due.same("the first context of 3", ends.pointsToIn(Make.r(3), 0), Make.set(Make.B));
    Due.same("x of 0 by the second call", ends.pointsToIn(Make.x(0), 0), Make.set(Make.B));
    for (int variable = 0; variable < 4; variable++) {
      Due.same("a global variable", ends.pointsToIn(variable, 0), ends.pointsTo(variable));
    }
    PointerAnalyzer most = pointsToInMost();
    Due.same("the first of 31", most.pointsToIn(Make.p(0), 0), Make.set(Make.p(0)));
    Due.same("the last of 31", most.pointsToIn(Make.p(0), 30), Make.set(Make.p(0)));
  }

  private static void pointsToInSet() {
    Sentence.of(14, "Returns the set of targets.");
    PointerAnalyzer ends = pointsToInEnds();
    Due.same("none", ends.pointsToIn(Make.x(3), 0), 0);
    Due.same("none in a new one", new PointerAnalyzer().pointsToIn(Make.y(0), 0), 0);
    PointerAnalyzer far = Make.with(Make.times("x=new", 8) + ";y=x+2");
    Due.same("bits to 43", far.pointsToIn(Make.y(0), 0), 0x249249L << 22);
  }

  private static void pointsToInThrowsIndex() {
    Sentence.of(14, "Throws IndexOutOfBoundsException if there is no such variable or context");
    PointerAnalyzer most = pointsToInMost();
    PointerAnalyzer ends = pointsToInEnds();
    for (int variable : Make.outside(20)) {
      Due.noIndex("variable " + variable, () -> ends.pointsToIn(variable, 0));
    }
    for (int context : Make.outside(1)) {
      Due.noIndex("of a global: " + context, () -> ends.pointsToIn(3, context));
      Due.noIndex("of function 0: " + context, () -> ends.pointsToIn(4, context));
    }
    for (int context : Make.outside(2)) {
      Due.noIndex("of function 3: " + context, () -> ends.pointsToIn(19, context));
    }
    for (int context : Make.outside(31)) {
      Due.noIndex("of 31: " + context, () -> most.pointsToIn(4, context));
    }
    for (int variable = 8; variable < 16; variable++) {
      int unreachable = variable;
      Due.noIndex("of an unreachable function", () -> ends.pointsToIn(unreachable, 0));
    }
  }

  // Promise 15

  private static void fieldPointsTo() {
    fieldPointsToAnswer();
    fieldPointsToOfSite();
    fieldPointsToOfField();
    fieldPointsToSet();
    fieldPointsToThrowsIndex();
  }

  private static PointerAnalyzer fieldPointsToAnalyzer() {
    return Make.with("a=new;b=new;*a=b;c=b+1;*c=a");
  }

  private static PointerAnalyzer fieldPointsToEight() {
    return Make.with(Make.times("a=new", 7) + ";b=new;*b=b;c=b+2;*c=c");
  }

  private static void fieldPointsToAnswer() {
    Sentence.of(15, "Returns the targets to which a field of a site points by the inclusion "
        + "analysis.");
    PointerAnalyzer analyzer = fieldPointsToAnalyzer();
    Due.same("field 0 of site 0", analyzer.fieldPointsTo(0, 0), Make.set(Make.field(1, 0)));
    Due.same("field 1 of site 1", analyzer.fieldPointsTo(1, 1), Make.set(Make.field(0, 0)));
    Due.same("field 1 of site 0", analyzer.fieldPointsTo(0, 1), 0);

    PointerAnalyzer limits = Make.with("x=&a;y=&b;c=f1(x);d=f1(y);p=new;*p=c", "r=p");
    Due.same("with the limit 0", limits.fieldPointsTo(0, 0), Make.set(Make.A, Make.B));
    limits.setLimit(1);
    Due.same("with the limit 1", limits.fieldPointsTo(0, 0), Make.set(Make.A));
  }

  private static void fieldPointsToOfSite() {
    Sentence.of(15, "site: the site");
    PointerAnalyzer eight = fieldPointsToEight();
    Due.same("the last", eight.fieldPointsTo(7, 0), Make.set(Make.field(7, 0)));
    Due.same("the first", eight.fieldPointsTo(0, 0), 0);
  }

  private static void fieldPointsToOfField() {
    Sentence.of(15, "field: the field, 0 to 2");
    PointerAnalyzer eight = fieldPointsToEight();
    Due.same("the last", eight.fieldPointsTo(7, 2), Make.set(Make.field(7, 2)));
    Due.same("the one before", eight.fieldPointsTo(7, 1), 0);
  }

  private static void fieldPointsToSet() {
    Sentence.of(15, "Returns the set of targets.");
    Due.same("none", Make.with("a=new").fieldPointsTo(0, 2), 0);
    Due.same("none of an unreachable site", Make.with("", "a=new;*a=a").fieldPointsTo(0, 0), 0);
    PointerAnalyzer many = Make.with(Make.times("a=new", 8) + ";a=a+1;*a=a;a=&y");
    Due.same("of the first field", many.fieldPointsTo(0, 0),
        (1L << 44) - (1L << 20) | Make.set(Make.y(0)));
    Due.same("of the last field", many.fieldPointsTo(7, 2), many.fieldPointsTo(0, 0));
  }

  private static void fieldPointsToThrowsIndex() {
    Sentence.of(15, "Throws IndexOutOfBoundsException if there is no such site or field");
    PointerAnalyzer eight = fieldPointsToEight();
    PointerAnalyzer analyzer = fieldPointsToAnalyzer();
    for (int site : Make.outside(2)) {
      Due.noIndex("site " + site, () -> analyzer.fieldPointsTo(site, 0));
    }
    for (int site : Make.outside(8)) {
      Due.noIndex("site of 8: " + site, () -> eight.fieldPointsTo(site, 2));
    }
    for (int site : Make.outside(0)) {
      Due.noIndex("site of none: " + site, () -> new PointerAnalyzer().fieldPointsTo(site, 0));
    }
    for (int field : Make.outside(3)) {
      Due.noIndex("field of the first site: " + field, () -> analyzer.fieldPointsTo(0, field));
      Due.noIndex("field of the last site: " + field, () -> eight.fieldPointsTo(7, field));
    }
    Make.body(eight, 0, "a=new");
    Due.noIndex("a site that was once right", () -> eight.fieldPointsTo(1, 0));
  }

  // Promise 16

  private static void factCount() {
    factCountAnswer();
    factCountRange();
    factsByCells();
  }

  private static void factCountAnswer() {
    Sentence.of(16, "Returns the number of facts of the inclusion analysis.");
    PointerAnalyzer analyzer = Make.with(TWO_CALLS);
    Due.same("with the limit 0", analyzer.factCount(), 2 + 2 + 2 + 2 + 2);
    analyzer.setLimit(1);
    Due.same("with the limit 1", analyzer.factCount(), 2 + 2 + 2 + 1 + 1);
    Make.body(analyzer, 1, "");
    Due.same("by the new body", analyzer.factCount(), 2 + 2);
  }

  private static void factCountRange() {
    Sentence.of(16, "Returns the number of facts.");
    Due.same("none", new PointerAnalyzer().factCount(), 0);
    Due.same("one by two statements", Make.with("a=&b;a=&b;a=a").factCount(), 1);
    Due.same("of a variable and of a field", Make.with("a=new;*a=a").factCount(), 2);
    PointerAnalyzer all = Make.with(Make.times("a=new", 8) + ";a=a+1;*a=a");
    Due.same("of all fields", all.factCount(), 24 + 24 * 24);
  }

  private static void factsByCells() {
    Sentence.of(0, "Facts are counted by cells, with their contexts.");
    PointerAnalyzer cells = Make.with(0, "a=f1(c);a=f1(d)", "x=&d;r=&x");
    Due.same("limit 0", cells.factCount(), 1 + 1 + 1);
    cells.setLimit(1);
    Due.same("x and r twice, a to two cells", cells.factCount(), 2 + 2 + 2);
    cells.setLimit(2);
    Due.same("no longer contexts", cells.factCount(), 2 + 2 + 2);
  }

  // Promise 17

  private static void mayAlias() {
    mayAliasAnswer();
    mayAliasOfFirst();
    mayAliasOfSecond();
    mayAliasRange();
    mayAliasThrowsIndex();
  }

  private static PointerAnalyzer mayAliasAnalyzer() {
    return Make.with("a=&c;a=&d;b=&d;b=&x;x=&c;y=new;p=new;r=y");
  }

  private static PointerAnalyzer mayAliasLast() {
    return Make.with("a=&b;x=f3(a)", "", "", "y=p");
  }

  private static void mayAliasAnswer() {
    Sentence.of(17, "Returns whether two variables point to a common target.");
    PointerAnalyzer analyzer = mayAliasAnalyzer();
    Due.same("one of two", analyzer.mayAlias(Make.A, Make.B), true);
    Due.same("none", analyzer.mayAlias(Make.B, Make.x(0)), false);
    Due.same("a field", analyzer.mayAlias(Make.y(0), Make.r(0)), true);
    Due.same("two fields", analyzer.mayAlias(Make.y(0), Make.p(0)), false);
    PointerAnalyzer contexts = Make.with(1, "b=&c;x=&d;b=f1(b);c=f1(x)", "r=&x");
    Due.same("in different contexts", contexts.mayAlias(Make.B, Make.C), true);
    PointerAnalyzer limits = Make.with(TWO_CALLS);
    Due.same("with the limit 0", limits.mayAlias(Make.C, Make.D), true);
    limits.setLimit(1);
    Due.same("with the limit 1", limits.mayAlias(Make.C, Make.D), false);
  }

  private static void mayAliasOfFirst() {
    Sentence.of(17, "first: a variable");
    PointerAnalyzer last = mayAliasLast();
    Due.same("the last one", last.mayAlias(19, 0), true);
  }

  private static void mayAliasOfSecond() {
    Sentence.of(17, "second: a variable");
    PointerAnalyzer last = mayAliasLast();
    Due.same("the last one", last.mayAlias(0, 19), true);
  }

  private static void mayAliasRange() {
    Sentence.of(17, "Returns whether the sets of pointsTo have a common element.");
    PointerAnalyzer analyzer = mayAliasAnalyzer();
    Due.same("two empty sets", analyzer.mayAlias(Make.C, Make.D), false);
    Due.same("an empty set and itself", analyzer.mayAlias(Make.C, Make.C), false);
    Due.same("a set and itself", analyzer.mayAlias(Make.B, Make.B), true);
    Due.same("an empty set", analyzer.mayAlias(Make.A, Make.C), false);
    PointerAnalyzer high = Make.with(Make.times("a=new", 7) + ";c=new;b=c+2;d=b");
    Due.same("bit 43 alone", high.mayAlias(Make.B, Make.D), true);
    Due.same("not bit 41", high.mayAlias(Make.B, Make.C), false);
  }

  private static void mayAliasThrowsIndex() {
    Sentence.of(17, "Throws IndexOutOfBoundsException if one of the variables does not exist");
    PointerAnalyzer analyzer = mayAliasAnalyzer();
    for (int variable : Make.outside(20)) {
      Due.noIndex("first " + variable, () -> analyzer.mayAlias(variable, 0));
      Due.noIndex("second " + variable, () -> analyzer.mayAlias(0, variable));
      Due.noIndex("both " + variable, () -> analyzer.mayAlias(variable, variable));
    }
  }

  // Promise 18

  private static void reach() {
    reachAnswer();
    reachByPointsTo();
    reachOfVariable();
    reachSet();
    reachThrowsIndex();
  }

  private static PointerAnalyzer reachLine() {
    return Make.with("d=&x;c=&d;b=&c;a=&b;x=&y;y=&p;p=&r");
  }

  private static void reachAnswer() {
    Sentence.of(18, "Returns all targets that can be reached from a variable: those to which it "
        + "points, those to which these point, and so on.");
    PointerAnalyzer line = reachLine();
    Due.same("seven steps", line.reach(Make.A), Make.set(1, 2, 3, 4, 5, 6, 7));
    Due.same("one step", line.reach(Make.p(0)), Make.set(Make.r(0)));
    Due.same("not itself", line.reach(Make.A) & 1, 0);
    Due.same("in a cycle itself", Make.with("a=&b;b=&a").reach(Make.A), 3);
    PointerAnalyzer copies = Make.with("a=b;b=c;c=a;d=f1(d)", "r=p;x=f1(x)");
    Due.same("a cycle of copies", copies.cycleOf(Make.A), 7);
    Due.same("is no path of pointers", copies.reach(Make.A), 0);
    Due.same("a function that calls itself", copies.isRecursive(1), true);
    Due.same("is none, too", copies.reach(1), 0);
    Due.same("by itself", Make.with("a=&a").reach(Make.A), 1);
    PointerAnalyzer limits = Make.with(TWO_CALLS);
    Due.same("with the limit 0", limits.reach(Make.C), Make.set(Make.A, Make.B));
    limits.setLimit(1);
    Due.same("with the limit 1", limits.reach(Make.C), Make.set(Make.A));
    PointerAnalyzer fields = Make.with("a=new;b=a+1;*b=b;c=new;*c=a;d=c+2;*d=c");
    Due.same("a field, not the object", fields.reach(Make.A), Make.set(Make.field(0, 0)));
    Due.same("by fields", fields.reach(Make.D),
        Make.set(Make.field(1, 2), Make.field(1, 0), Make.field(0, 0)));
  }

  private static void reachByPointsTo() {
    Sentence.of(0, "A target that is a variable points, for reach, to what pointsTo tells of it.");
    PointerAnalyzer contexts = Make.with(1, "a=f1(c);b=f1(d);c=&c;d=&d", "r=&x;x=p");
    Due.same("in context 0", contexts.pointsToIn(Make.x(1), 0), Make.set(Make.C));
    Due.same("c and d by x of all contexts", contexts.reach(Make.A),
        Make.set(Make.x(1), Make.C, Make.D));
  }

  private static void reachOfVariable() {
    Sentence.of(18, "variable: the number of the variable, 0 to 19");
    PointerAnalyzer last = Make.with("x=f3(x)", "", "", "y=&x;x=&a");
    Due.same("the last", last.reach(19), Make.set(Make.x(3), Make.A));
    Due.same("the first", last.reach(0), 0);
  }

  private static void reachSet() {
    Sentence.of(18, "Returns the set of targets.");
    Due.same("none", new PointerAnalyzer().reach(0), 0);
    PointerAnalyzer many = Make.with("a=&b;" + Make.times("b=new", 8) + ";b=b+1;*b=a");
    Due.same("to bit 43", many.reach(Make.A), (1L << 44) - (1L << 20) | 2);
  }

  private static void reachThrowsIndex() {
    Sentence.of(18, "Throws IndexOutOfBoundsException if there is no such variable");
    PointerAnalyzer line = reachLine();
    for (int variable : Make.outside(20)) {
      Due.noIndex("variable " + variable, () -> line.reach(variable));
    }
  }

  // Promise 19

  private static void escapingSites() {
    escapingSitesAnswer();
    escapingSitesSet();
  }

  private static void escapingSitesAnswer() {
    Sentence.of(19, "Returns the sites of which a field can be reached from a global variable.");
    for (String name : new String[] {"a", "b", "c", "d"}) {
      Due.same("by " + name, Make.with("x=new;y=new;" + name + "=y").escapingSites(), 2);
    }
    for (int field = 0; field < 3; field++) {
      Due.same("by field " + field, Make.with("x=new;a=x+" + field).escapingSites(), 1);
    }
    Due.same("by a local", Make.with("x=new;a=&y;y=x").escapingSites(), 1);
    Due.same("by a field", Make.with("x=new;a=new;*a=x").escapingSites(), 3);
    Due.same("not by a field that is not reached",
        Make.with("x=new;p=new;y=x+1;*y=p;a=x").escapingSites(), 1);
    Due.same("not by a local alone", Make.with("x=new;y=x;p=&x").escapingSites(), 0);
    Due.same("not by an unreachable function", Make.with("", "a=new").escapingSites(), 0);

    PointerAnalyzer limits = Make.with("x=new;y=new;c=f1(x);r=f1(y)", "r=p");
    Due.same("with the limit 0", limits.escapingSites(), 3);
    limits.setLimit(1);
    Due.same("with the limit 1", limits.escapingSites(), 1);
  }

  private static void escapingSitesSet() {
    Sentence.of(19, "Returns the set of sites, bit s for site s.");
    Due.same("none", new PointerAnalyzer().escapingSites(), 0);
    Due.same("all", Make.with(Make.times("a=new", 8)).escapingSites(), 255);
    Due.same("the first", Make.with("a=new;" + Make.times("x=new", 7)).escapingSites(), 1);
    Due.same("the last", Make.with(Make.times("x=new", 7) + ";a=new").escapingSites(), 128);
  }
}
