/** The sentences on programs, texts and targets, and those of the promises 1 to 8. */
final class TextSentences {
  /** A body text of 80 characters with 12 statements, 6 of them allocations and 5 of them calls. */
  static final String EIGHTY =
      Make.times("d=f2(c)", 5) + ";" + Make.times("x=new", 6) + ";a=&b";

  private TextSentences() {
  }

  static void all() {
    variables();
    globals();
    locals();
    parameterAndResult();
    atMostTwelveStatements();
    atFirstAllBodiesAreEmpty();
    atMostEightAllocationsAndFiveCalls();
    statementNumbers();
    digitsOfOffsets();
    digitsOfCalls();
    localNames();
    textOfEighty();
    bodyTexts();
    firstCharacterThatCannotContinue();
    textsThatEndTooEarly();
    siteNumbers();
    fieldsOfObjects();
    targets();
    targetCodes();
    bitsOfSets();
    newObject();
    appendCharacter();
    setBody();
    faultPosition();
    statementCount();
    kind();
    functionOf();
    siteCount();
  }

  // The description

  private static void variables() {
    Sentence.of(0, "There are 20 variables.");
    PointerAnalyzer analyzer = Make.with("", "", "", "a=b");
    Due.same("the first", analyzer.cycleOf(0), 1);
    Due.same("the last", analyzer.cycleOf(19), 1 << 19);
    Due.noIndex("one before", () -> analyzer.cycleOf(-1));
    Due.noIndex("one more", () -> analyzer.cycleOf(20));
  }

  private static void globals() {
    Sentence.of(0, "The variables 0 to 3 are global, with the names a, b, c and d.");
    for (int function = 0; function < 4; function++) {
      PointerAnalyzer analyzer = new PointerAnalyzer();
      Make.body(analyzer, function, "a=&b;b=&c;c=&d;d=&a");
      for (int variable = 0; variable < 4; variable++) {
        Due.same("in function " + function, analyzer.unifiedTargets(variable),
            Make.set((variable + 1) % 4));
      }
    }
    PointerAnalyzer shared = Make.with("x=f3(x);x=d", "", "", "d=&c");
    Due.same("of all functions", shared.pointsTo(Make.x(0)), Make.set(Make.C));
  }

  private static void locals() {
    Sentence.of(0, "function f has the variables 4 + 4 * f to 7 + 4 * f, in this order.");
    for (int function = 0; function < 4; function++) {
      PointerAnalyzer analyzer = new PointerAnalyzer();
      Make.body(analyzer, function, "p=&r;r=&x;x=&y;y=&p");
      int first = 4 + 4 * function;
      for (int variable = 0; variable < 20; variable++) {
        boolean own = variable >= first && variable <= first + 3;
        Due.same("of function " + function, analyzer.unifiedTargets(variable),
            own ? Make.set(first + (variable - first + 1) % 4) : 0);
      }
    }
  }

  private static void parameterAndResult() {
    Sentence.of(0, "p is the parameter and r the result of the function.");
    for (int function = 1; function < 4; function++) {
      PointerAnalyzer analyzer = Make.with("a=&b;c=f" + function + "(a)");
      Make.body(analyzer, function, "r=&x;x=&y;y=&r");
      for (int local = 0; local < 4; local++) {
        Due.same("local " + local, (analyzer.pointsTo(4 + 4 * function + local) & 2) != 0,
            local == 0);
      }
      Due.same("c", analyzer.pointsTo(Make.C), Make.set(Make.x(function)));
    }
  }

  private static void atMostTwelveStatements() {
    Sentence.of(0, "The body of a function is a list of at most 12 statements");
    for (int each = 0; each < 4; each++) {
      int function = each;
      PointerAnalyzer analyzer = new PointerAnalyzer();
      Due.same("12", Make.body(analyzer, function, Make.times("*a=b", 12)), 12);
      Make.type(analyzer, Make.times("*a=b", 13));
      Due.noState("13", () -> analyzer.setBody(function));
      Due.same("still 12", analyzer.statementCount(), 12);
    }
  }

  private static void atFirstAllBodiesAreEmpty() {
    Sentence.of(0, "at first all bodies are empty");
    Due.same("statements", new PointerAnalyzer().statementCount(), 0);
    Due.noIndex("the first statement", () -> new PointerAnalyzer().functionOf(0));
    Due.same("executed", new PointerAnalyzer().run(), 0);
  }

  private static void atMostEightAllocationsAndFiveCalls() {
    Sentence.of(0, "All bodies together have at most 8 allocations and at most 5 calls.");
    PointerAnalyzer analyzer = Make.with("a=new;a=new;a=f1(a);a=f1(a)", "a=new;a=new;a=f1(a)",
        "a=new;a=new;a=f1(a)", "a=new;a=new;a=f1(a)");
    Due.same("8 allocations", analyzer.siteCount(), 8);
    for (int each = 0; each < 4; each++) {
      int function = each;
      String calls = Make.times("a=f1(a)", function == 0 ? 2 : 1);
      Make.type(analyzer, "a=new;a=new;a=new;" + calls);
      Due.noState("a ninth allocation", () -> analyzer.setBody(function));
      Make.type(analyzer, "a=new;a=new;b=f1(b);" + calls);
      Due.noState("a sixth call", () -> analyzer.setBody(function));
      Due.same("the same again", Make.body(analyzer, function, "a=new;a=new;" + calls),
          function == 0 ? 4 : 3);
    }
    Due.same("statements", analyzer.statementCount(), 13);
  }

  private static void statementNumbers() {
    Sentence.of(0, "The statements are numbered from 0: first those of function 0 in their order");
    PointerAnalyzer analyzer = new PointerAnalyzer();
    Make.body(analyzer, 3, "a=b+1;a=f3(a)");
    Make.body(analyzer, 1, "*a=b;a=new");
    Make.body(analyzer, 0, "a=&b;a=b;a=*b");
    int[] functions = {0, 0, 0, 1, 1, 3, 3};
    for (int statement = 0; statement < 7; statement++) {
      Due.same("kind " + statement, analyzer.kind(statement), statement);
      Due.same("functionOf " + statement, analyzer.functionOf(statement), functions[statement]);
    }
    Make.body(analyzer, 0, "");
    Due.same("without those of function 0", analyzer.kind(0), 3);
    Make.body(analyzer, 2, "a=&b");
    Due.same("with one of function 2", analyzer.functionOf(2), 2);
    Due.same("and then function 3", analyzer.kind(3), 5);
  }

  private static void refuse(String text, int fault) {
    for (int each = 0; each < 4; each++) {
      int function = each;
      PointerAnalyzer analyzer = new PointerAnalyzer();
      Make.type(analyzer, text);
      Due.noArgument(text, () -> analyzer.setBody(function));
      Due.same("faultPosition of " + text, analyzer.faultPosition(), fault);
      Due.same("statements by " + text, analyzer.statementCount(), 0);
    }
  }

  private static void digitsOfOffsets() {
    Sentence.of(0, "with a digit n from 0 to 2 (offset)");
    for (char digit = '0'; digit <= '2'; digit++) {
      PointerAnalyzer analyzer = Make.with("a=b+" + digit);
      Due.same("offset " + digit, analyzer.kind(0), 5);
    }
    for (char digit = '3'; digit <= '9'; digit++) {
      refuse("a=b+" + digit, 4);
    }
    refuse("a=b+/", 4);
    refuse("a=b+-1", 4);
    refuse("a=b+00", 5);
  }

  private static void digitsOfCalls() {
    Sentence.of(0, "with a digit n from 0 to 3 (call of function n)");
    for (int function = 0; function < 4; function++) {
      PointerAnalyzer analyzer = Make.with("x=&y;a=f" + function + "(x)");
      Due.same("call", analyzer.kind(1), 6);
      Due.same("of function " + function, analyzer.pointsTo(Make.p(function)),
          Make.set(Make.y(0)));
    }
    for (char digit = '4'; digit <= '9'; digit++) {
      refuse("a=f" + digit + "(b)", 3);
    }
    refuse("a=f/(b)", 3);
    refuse("a=f(b)", 3);
    refuse("a=f00(b)", 4);
  }

  private static void localNames() {
    Sentence.of(0, "In the body of a function, local names mean the variables of this function.");
    PointerAnalyzer analyzer = Make.with("x=&y", "x=&y", "x=&y", "x=&y");
    for (int function = 0; function < 4; function++) {
      Due.same("x of " + function, analyzer.unifiedTargets(Make.x(function)),
          Make.set(Make.y(function)));
    }
    PointerAnalyzer late = new PointerAnalyzer();
    Make.type(late, "p=&r");
    Due.noIndex("no function", () -> late.setBody(4));
    late.setBody(2);
    Due.same("by the function that is set", late.unifiedTargets(Make.p(2)), Make.set(Make.r(2)));
  }

  private static void textOfEighty() {
    Sentence.of(0, "There is a text of at most 80 characters, which is empty at first.");
    Due.same("empty at first", new PointerAnalyzer().setBody(0), 0);
    Due.same("the first character", new PointerAnalyzer().appendCharacter('a'), 1);
    PointerAnalyzer analyzer = new PointerAnalyzer();
    Make.type(analyzer, EIGHTY.substring(0, 79));
    Due.same("the last character", analyzer.appendCharacter('b'), 80);
    Due.noState("one more", () -> analyzer.appendCharacter(';'));
    Due.same("all 80 are read", analyzer.setBody(0), 12);
    Due.same("the last one, too", analyzer.pointsTo(Make.A), Make.set(Make.B));
  }

  private static void bodyTexts() {
    Sentence.of(0, "A body text is empty, or consists of one or more statements with a \";\" "
        + "between two of them, without spaces.");
    Due.same("empty", Make.body(new PointerAnalyzer(), 0, ""), 0);
    Due.same("one", Make.body(new PointerAnalyzer(), 0, "a=b"), 1);
    Due.same("two", Make.body(new PointerAnalyzer(), 0, "a=b;a=b"), 2);
    refuse(";", 0);
    refuse(";a=b", 0);
    refuse("a=b;", 4);
    refuse("a=b;;a=b", 4);
    refuse("a=ba=b", 3);
    refuse("a=b,a=b", 3);
    Due.noArgument("a space", () -> new PointerAnalyzer().appendCharacter(' '));
  }

  /** Every kind of statement, with "y=x" and "y=x+2" as the two that begin alike. */
  private static final String EACH_KIND = "a=&p;b=r;c=*x;*d=y;p=new;y=x+2;r=f3(a);x=f0(y);*y=b";
  private static final int[] COMPLETE = {4, 8, 13, 18, 24, 28, 30, 38, 46, 51};

  private static boolean isComplete(int length) {
    for (int complete : COMPLETE) {
      if (length == complete) {
        return true;
      }
    }
    return length == 0;
  }

  private static void firstCharacterThatCannotContinue() {
    Sentence.of(0,
        "The fault position of a text is the index of the first character that cannot continue");
    for (int place = 0; place < EACH_KIND.length(); place++) {
      String before = EACH_KIND.substring(0, place);
      String behind = EACH_KIND.substring(place + 1);
      refuse(before + "!" + behind, place);
      refuse(before + "~!" + behind, place);
    }
    refuse(EACH_KIND + "!", EACH_KIND.length());
    String[] wrongNames = {"e=b", "f=b", "n=b", "o=b", "q=b", "s=b", "w=b", "z=b", "`=b", "A=b"};
    for (String text : wrongNames) {
      refuse(text, 0);
      refuse("*" + text, 1);
      refuse("a=&" + text.charAt(0), 3);
      refuse("a=*" + text.charAt(0), 3);
      refuse("*a=" + text.charAt(0), 3);
      refuse("a=f0(" + text.charAt(0), 5);
    }
    refuse(EIGHTY.substring(0, 79) + "!", 79);
  }

  private static void textsThatEndTooEarly() {
    Sentence.of(0, "it is the length of the text if the text ends too early");
    for (int length = 0; length <= EACH_KIND.length(); length++) {
      String text = EACH_KIND.substring(0, length);
      if (!isComplete(length)) {
        refuse(text, length);
      } else {
        PointerAnalyzer analyzer = Make.with(text);
        Due.same("no fault in " + text, analyzer.faultPosition(), -1);
      }
    }
    refuse(EIGHTY.substring(0, 79), 79);
    refuse(Make.times("a=b", 19) + ";a=&", 79);
    refuse(Make.times("a=b", 20) + ";", 80);
  }

  private static void siteNumbers() {
    Sentence.of(0, "The allocations are called sites; they are numbered from 0 in the order of "
        + "the statement numbers.");
    PointerAnalyzer analyzer = new PointerAnalyzer();
    Make.body(analyzer, 3, "d=new");
    Make.body(analyzer, 1, "b=new;b=a;c=new");
    Make.body(analyzer, 0, "x=f1(x);x=f3(x);a=new");
    for (int variable = 0; variable < 4; variable++) {
      long own = Make.set(Make.field(variable, 0));
      Due.same("site " + variable, analyzer.pointsTo(variable),
          variable == Make.B ? own | analyzer.pointsTo(Make.A) : own);
    }
    Make.body(analyzer, 0, "x=f3(x)");
    Due.same("by the other bodies", analyzer.pointsTo(Make.D), Make.set(Make.field(2, 0)));
  }

  private static void fieldsOfObjects() {
    Sentence.of(0, "An object of a site has the fields 0, 1 and 2.");
    PointerAnalyzer analyzer = Make.with("a=new;*a=a;b=a+1;*b=b;c=b+1;*c=c;d=c+1;*d=d");
    for (int field = 0; field < 3; field++) {
      Due.same("field " + field, analyzer.fieldPointsTo(0, field), Make.set(Make.field(0, field)));
    }
    Due.same("no field 3", analyzer.pointsTo(Make.D), 0);
    analyzer.run();
    Due.same("in the run, too", analyzer.faults(), 2);
  }

  private static void targets() {
    Sentence.of(0, "A target is a variable or a field of a site.");
    for (int count = 0; count <= 8; count++) {
      int targets = 20 + 3 * count;
      PointerAnalyzer analyzer = Make.with(count == 0 ? "" : Make.times("x=new", count));
      Due.noElement("the last one", () -> analyzer.rank(Make.A, targets - 1));
      Due.noIndex("one more", () -> analyzer.rank(Make.A, targets));
    }
  }

  private static void targetCodes() {
    Sentence.of(0, "Its code is the number of the variable, or 20 + 3 * site + field.");
    PointerAnalyzer analyzer = Make.with(
        Make.times("x=new", 7) + ";a=new;y=x+1;r=a+2;c=&y;b=f1(x)", "d=&a;d=&y", "", "x=&y");
    for (int site = 0; site < 7; site++) {
      Due.same("field 0", analyzer.rank(Make.x(0), 20 + 3 * site), 1);
      Due.same("field 1", analyzer.rank(Make.y(0), 21 + 3 * site), 2);
    }
    Due.same("the last field", analyzer.rank(Make.r(0), 43), 2);
    Due.same("the first variable", analyzer.rank(Make.D, 0), 1);
    Due.same("a local variable", analyzer.rank(Make.C, 7), 1);
    Due.same("another", analyzer.rank(Make.D, 11), 1);
    Make.body(analyzer, 1, "r=f3(p)");
    Due.same("the last variable", analyzer.rank(Make.x(3), 19), 1);
  }

  private static void bitsOfSets() {
    Sentence.of(0, "A set of targets is written as a long in which bit k stands for the target");
    PointerAnalyzer analyzer = Make.with("x=f3(x);" + Make.times("a=new", 8) + ";a=a+1;b=&a", "",
        "", "c=&y;c=&a;d=c");
    Due.same("bit 0", analyzer.pointsTo(Make.B), 1);
    Due.same("bits 0 and 19", analyzer.pointsTo(Make.D), 524289L);
    Due.same("bits 20 to 43", analyzer.pointsTo(Make.A), 17592184995840L);
    Due.same("unified", analyzer.unifiedTargets(Make.A), 17592184995840L);
    Due.same("reached", analyzer.reach(Make.B), 17592184995841L);
  }

  // Promise 1

  private static void newObject() {
    Sentence.of(1, "Creates an analyzer with empty bodies.");
    PointerAnalyzer used = Make.with("a=new", "b=new", "c=new", "d=new");
    PointerAnalyzer analyzer = new PointerAnalyzer();
    Due.same("statements", analyzer.statementCount(), 0);
    Due.same("sites", analyzer.siteCount(), 0);
    Due.same("facts", analyzer.factCount(), 0);
    Due.same("those of another stay", used.statementCount(), 4);
    for (int function = 0; function < 4; function++) {
      Due.same("one statement", Make.body(analyzer, function, "a=b"), 1);
      Due.same("of all", analyzer.statementCount(), function + 1);
    }
  }

  // Promise 2

  private static void appendCharacter() {
    appendAtTheEnd();
    appendEachCharacter();
    appendReturnsTheLength();
    appendWrongCharacters();
    appendToFullText();
  }

  private static void appendAtTheEnd() {
    Sentence.of(2, "Appends a character to the text.");
    PointerAnalyzer analyzer = new PointerAnalyzer();
    Make.type(analyzer, "*a=b");
    analyzer.setBody(0);
    Due.same("in this order", analyzer.kind(0), 3);
    Due.same("all of it", analyzer.statementCount(), 1);
  }

  private static void appendEachCharacter() {
    Sentence.of(2, "character: the character code, 33 to 126");
    for (int character = 33; character <= 126; character++) {
      Due.same("character " + character, new PointerAnalyzer().appendCharacter(character), 1);
    }
  }

  private static void appendReturnsTheLength() {
    Sentence.of(2, "Returns the new length of the text.");
    PointerAnalyzer analyzer = new PointerAnalyzer();
    for (int length = 1; length <= 80; length++) {
      Due.same("length", analyzer.appendCharacter(length + 33), length);
    }
    Due.noArgument("a fault empties it", () -> analyzer.setBody(0));
    Due.same("the first again", analyzer.appendCharacter('a'), 1);
    Due.noArgument("a refused one", () -> analyzer.appendCharacter(127));
    Due.same("does not count", analyzer.appendCharacter('='), 2);
  }

  private static void appendWrongCharacters() {
    Sentence.of(2, "Throws IllegalArgumentException if character is not from 33 to 126");
    PointerAnalyzer analyzer = new PointerAnalyzer();
    int[] wrong = {32, 127, 0, 10, -1, 128, 255, 33 + 128, 33 + 256, 97 - 256, 65536 + 97,
        97 - 65536, 1 << 30, Integer.MIN_VALUE, Integer.MIN_VALUE + 97, Integer.MAX_VALUE};
    for (int character : wrong) {
      Due.noArgument("character " + character, () -> analyzer.appendCharacter(character));
    }
    Due.same("the text is still empty", analyzer.setBody(0), 0);
  }

  private static void appendToFullText() {
    Sentence.of(2, "Throws IllegalStateException if the text has 80 characters");
    PointerAnalyzer analyzer = new PointerAnalyzer();
    Make.type(analyzer, EIGHTY.substring(0, 78));
    Due.same("79 of 80", analyzer.appendCharacter('&'), 79);
    Due.same("80 of 80", analyzer.appendCharacter('b'), 80);
    Due.noState("81", () -> analyzer.appendCharacter('a'));
    Due.noState("81 again", () -> analyzer.appendCharacter(';'));
    Due.noIndex("no function", () -> analyzer.setBody(4));
    Due.noState("81 after a call that did not empty it", () -> analyzer.appendCharacter(';'));
    Due.same("it is as it was", analyzer.setBody(0), 12);
    Due.same("then there is room", analyzer.appendCharacter('a'), 1);
  }

  // Promise 3

  private static void setBody() {
    setBodyReadsMakesAndEmpties();
    setBodyEmptiesAlsoIfItThrows();
    setBodyOfEachFunction();
    setBodyCounts();
    setBodyOfNoFunction();
    setBodyWithFault();
    setBodyWithTooManyStatements();
    setBodyWithTooManyAllocations();
    setBodyWithTooManyCalls();
  }

  private static void setBodyReadsMakesAndEmpties() {
    Sentence.of(3, "Reads the text as a body text, makes it the body of a function, and empties");
    PointerAnalyzer analyzer = Make.with("a=&b;a=&c;a=&d");
    Make.body(analyzer, 0, "a=&a");
    Due.same("in place of the body before", analyzer.pointsTo(Make.A), Make.set(Make.A));
    Due.same("statements", analyzer.statementCount(), 1);
    Due.same("the text is empty", analyzer.setBody(0), 0);
    Due.same("an empty body", analyzer.statementCount(), 0);
    Due.same("the text is empty", analyzer.appendCharacter('b'), 1);
  }

  private static void setBodyEmptiesAlsoIfItThrows() {
    Sentence.of(3, "The text is emptied also if an exception is thrown, except for "
        + "IndexOutOfBoundsException.");
    PointerAnalyzer analyzer = new PointerAnalyzer();
    Make.type(analyzer, "a=");
    Due.noArgument("a fault", () -> analyzer.setBody(0));
    Due.same("emptied by IllegalArgumentException", Make.body(analyzer, 0, "a=b"), 1);
    Make.type(analyzer, Make.times("a=b", 13));
    Due.noState("too many", () -> analyzer.setBody(0));
    Due.same("emptied by IllegalStateException", Make.body(analyzer, 0, "a=b;b=c"), 2);
    Make.type(analyzer, "a=&");
    Due.noIndex("no function", () -> analyzer.setBody(4));
    Due.noIndex("no function", () -> analyzer.setBody(-1));
    Due.same("not emptied by IndexOutOfBoundsException", Make.body(analyzer, 0, "d"), 1);
    Due.same("read whole", analyzer.pointsTo(Make.A), Make.set(Make.D));
  }

  private static void setBodyOfEachFunction() {
    Sentence.of(3, "function: the function, 0 to 3");
    PointerAnalyzer analyzer = new PointerAnalyzer();
    for (int function = 3; function >= 0; function--) {
      Make.body(analyzer, function, "p=r");
      Due.same("function", analyzer.functionOf(0), function);
    }
    for (int function = 0; function < 4; function++) {
      Due.same("function", analyzer.functionOf(function), function);
    }
  }

  private static void setBodyCounts() {
    Sentence.of(3, "Returns the number of statements of the body.");
    PointerAnalyzer analyzer = Make.with(Make.times("a=b", 12));
    for (int count = 1; count <= 12; count++) {
      Due.same("of the body alone", Make.body(analyzer, 2, Make.times("a=*b", count)), count);
    }
    Due.same("of the empty body", Make.body(analyzer, 2, ""), 0);
  }

  private static void setBodyOfNoFunction() {
    Sentence.of(3, "Throws IndexOutOfBoundsException if there is no such function");
    PointerAnalyzer analyzer = Make.with("a=b");
    for (int function : Make.outside(4)) {
      Due.noIndex("function " + function, () -> analyzer.setBody(function));
    }
    Due.same("statements", analyzer.statementCount(), 1);
  }

  private static void setBodyWithFault() {
    Sentence.of(3, "Throws IllegalArgumentException if the text has a fault");
    PointerAnalyzer analyzer = Make.with("a=&b");
    for (String text : new String[] {"!", "a", "a=c;", "a=&c;b", "a=b+3", Make.times("a=b", 20)
        + ";"}) {
      Make.type(analyzer, text);
      Due.noArgument(text, () -> analyzer.setBody(0));
      Due.same("the body stays", analyzer.pointsTo(Make.A), Make.set(Make.B));
    }
    Due.same("no fault", Make.body(analyzer, 0, "a=&c"), 1);
  }

  private static void setBodyWithTooManyStatements() {
    Sentence.of(3, "if the body would have more than 12 statements");
    for (int count = 13; count <= 20; count++) {
      PointerAnalyzer analyzer = Make.with("", "a=b", Make.times("b=c", 12));
      Make.type(analyzer, Make.times("a=b", count));
      Due.noState("too many", () -> analyzer.setBody(1));
      Make.type(analyzer, Make.times("a=b", count));
      Due.noState("instead of 12", () -> analyzer.setBody(2));
      Due.same("as before", analyzer.statementCount(), 13);
      Due.same("12", Make.body(analyzer, 1, Make.times("a=b", 12)), 12);
    }
  }

  private static void setBodyWithTooManyAllocations() {
    Sentence.of(3, "all bodies together would have more than 8 allocations");
    PointerAnalyzer analyzer = Make.with("a=new;b=a;a=new;a=new", "", "a=new;a=new", "a=new;a=b");
    Make.type(analyzer, "a=new;a=new;a=new");
    Due.noState("9", () -> analyzer.setBody(1));
    Due.same("8", Make.body(analyzer, 1, "a=new;a=new"), 2);
    Make.type(analyzer, "b=a;a=new;a=new");
    Due.noState("9 by another body", () -> analyzer.setBody(3));
    Due.same("what is replaced does not count",
        Make.body(analyzer, 0, "b=new;b=new;b=new"), 3);
    for (int function = 0; function < 4; function++) {
      Make.body(analyzer, function, "");
    }
    Make.type(analyzer, Make.times("a=new", 9));
    Due.noState("9 in one body", () -> analyzer.setBody(2));
    Due.same("8 in one body", Make.body(analyzer, 2, Make.times("a=new", 8)), 8);
  }

  private static void setBodyWithTooManyCalls() {
    Sentence.of(3, "or more than 5 calls");
    PointerAnalyzer analyzer = Make.with("a=f3(a);a=f3(a)", "a=f0(b)", "", "a=b;a=f1(a)");
    Make.type(analyzer, "a=f2(a);a=f2(a)");
    Due.noState("6", () -> analyzer.setBody(2));
    Due.same("5", Make.body(analyzer, 2, "a=f2(a)"), 1);
    Make.type(analyzer, "a=f2(a);a=f2(a)");
    Due.noState("6 by another body", () -> analyzer.setBody(1));
    Due.same("what is replaced does not count", Make.body(analyzer, 0, "b=f3(b);b=f3(b)"), 2);
    Due.same("calls of unreachable functions count", analyzer.isReachable(2), false);
    for (int function = 0; function < 3; function++) {
      Make.body(analyzer, function, "");
    }
    Make.type(analyzer, Make.times("a=f0(a)", 6));
    Due.noState("6 in one body", () -> analyzer.setBody(3));
    Due.same("5 in one body", Make.body(analyzer, 3, Make.times("a=f0(a)", 5)), 5);
  }

  // Promise 4

  private static void faultPosition() {
    faultPositionOfLatestText();
    faultPositionIsMinusOne();
  }

  private static void faultPositionOfLatestText() {
    Sentence.of(4, "Returns the fault position of the text that was read by the latest call of "
        + "setBody that did not throw IndexOutOfBoundsException.");
    PointerAnalyzer analyzer = new PointerAnalyzer();
    analyzer.save();
    Make.type(analyzer, "!");
    Due.noArgument("a fault", () -> analyzer.setBody(0));
    Due.same("at 0", analyzer.faultPosition(), 0);
    Due.same("asked again", analyzer.faultPosition(), 0);
    Make.type(analyzer, "a=b+3");
    Due.same("not before it is read", analyzer.faultPosition(), 0);
    for (int function : Make.outside(4)) {
      Due.noIndex("no function", () -> analyzer.setBody(function));
      Due.same("it was not read", analyzer.faultPosition(), 0);
    }
    Due.noArgument("a fault", () -> analyzer.setBody(3));
    Due.same("at 4", analyzer.faultPosition(), 4);
    analyzer.restore();
    analyzer.run();
    Due.noArgument("not a text", () -> analyzer.setLimit(3));
    Due.same("by setBody alone", analyzer.faultPosition(), 4);
    Make.type(analyzer, Make.times("a=b", 20) + ";");
    Due.noArgument("a fault", () -> analyzer.setBody(3));
    Due.same("at 80", analyzer.faultPosition(), 80);
  }

  private static void faultPositionIsMinusOne() {
    Sentence.of(4, "or -1 if the text had no fault or there was no such call");
    PointerAnalyzer analyzer = new PointerAnalyzer();
    Due.same("no call", analyzer.faultPosition(), -1);
    Make.type(analyzer, "!");
    Due.noIndex("no function", () -> analyzer.setBody(4));
    Due.same("no such call", analyzer.faultPosition(), -1);
    Due.noArgument("a fault", () -> analyzer.setBody(0));
    Make.body(analyzer, 0, "a=b");
    Due.same("a body", analyzer.faultPosition(), -1);
    for (String tooMany : new String[] {Make.times("a=b", 13), Make.times("a=new", 9),
        Make.times("a=f0(a)", 6)}) {
      Make.type(analyzer, "a");
      Due.noArgument("a fault", () -> analyzer.setBody(0));
      Due.same("a fault", analyzer.faultPosition(), 1);
      Make.type(analyzer, tooMany);
      Due.noState("too many", () -> analyzer.setBody(0));
      Due.same("no fault", analyzer.faultPosition(), -1);
    }
    Make.type(analyzer, "a");
    Due.noArgument("a fault", () -> analyzer.setBody(0));
    analyzer.setBody(1);
    Due.same("the empty text", analyzer.faultPosition(), -1);
  }

  // Promises 5 to 8

  private static void statementCount() {
    statementCountAnswer();
    statementCountRange();
  }

  private static void statementCountAnswer() {
    Sentence.of(5, "Returns the number of statements of all bodies together.");
    PointerAnalyzer analyzer = Make.with("a=b", "", "a=b;b=c", "a=b;b=c;c=d;d=a");
    Due.same("of three bodies", analyzer.statementCount(), 7);
    Make.body(analyzer, 2, "");
    Due.same("of two", analyzer.statementCount(), 5);
  }

  private static void statementCountRange() {
    Sentence.of(5, "Returns 0 to 48.");
    PointerAnalyzer full = new PointerAnalyzer();
    Due.same("none", full.statementCount(), 0);
    for (int function = 0; function < 4; function++) {
      Make.body(full, function, Make.times("a=b", 12));
      Due.same("more", full.statementCount(), 12 * function + 12);
    }
    Make.type(full, Make.times("a=b", 13));
    Due.noState("one more", () -> full.setBody(3));
    Due.same("48", full.statementCount(), 48);
    Make.body(full, 1, "");
    Due.same("fewer again", full.statementCount(), 36);
  }

  private static final String SEVEN = "a=&b;a=b;a=*b;*a=b;a=new;a=b+0;a=f1(b)";

  private static PointerAnalyzer fortyEight() {
    return Make.with(Make.times("a=b", 12), Make.times("a=&b", 12), Make.times("*a=b", 12),
        Make.times("a=b", 11) + ";a=b+2");
  }

  private static void kind() {
    kindAnswer();
    kindOfStatement();
    kindRange();
    kindThrowsIndex();
  }

  private static void kindAnswer() {
    Sentence.of(6, "Returns the kind of a statement.");
    PointerAnalyzer moved = Make.with("a=b", "a=new");
    Due.same("kind", moved.kind(1), 4);
    Make.body(moved, 0, "");
    Due.same("by its new number", moved.kind(0), 4);
  }

  private static void kindOfStatement() {
    Sentence.of(6, "statement: the number of the statement");
    PointerAnalyzer full = fortyEight();
    Due.same("the first", full.kind(0), 1);
    Due.same("the last of function 0", full.kind(11), 1);
    Due.same("the first of function 1", full.kind(12), 0);
    Due.same("the first of function 2", full.kind(24), 3);
    Due.same("the last", full.kind(47), 5);
  }

  private static void kindRange() {
    Sentence.of(6, "Returns 0 address, 1 copy, 2 load, 3 store, 4 allocation, 5 offset, 6 call.");
    PointerAnalyzer seven = Make.with(SEVEN);
    for (int statement = 0; statement < 7; statement++) {
      Due.same("kind", seven.kind(statement), statement);
    }
  }

  private static void kindThrowsIndex() {
    Sentence.of(6, "Throws IndexOutOfBoundsException if there is no such statement");
    PointerAnalyzer seven = Make.with(SEVEN);
    PointerAnalyzer full = fortyEight();
    for (int statement : Make.outside(7)) {
      Due.noIndex("of 7: " + statement, () -> seven.kind(statement));
    }
    for (int statement : Make.outside(48)) {
      Due.noIndex("of 48: " + statement, () -> full.kind(statement));
    }
    for (int statement : Make.outside(0)) {
      Due.noIndex("of none: " + statement, () -> new PointerAnalyzer().kind(statement));
    }
    Make.body(seven, 0, "a=b");
    Due.noIndex("a number that was once right", () -> seven.kind(1));
  }

  private static void functionOf() {
    functionOfAnswer();
    functionOfStatement();
    functionOfRange();
    functionOfThrowsIndex();
  }

  private static void functionOfAnswer() {
    Sentence.of(7, "Returns the function in whose body a statement is.");
    PointerAnalyzer moved = Make.with("a=b", "", "a=new");
    Due.same("over the empty body", moved.functionOf(1), 2);
    Make.body(moved, 0, "");
    Due.same("by its new number", moved.functionOf(0), 2);
  }

  private static void functionOfStatement() {
    Sentence.of(7, "statement: the number of the statement");
    PointerAnalyzer full = fortyEight();
    for (int statement = 0; statement < 48; statement++) {
      Due.same("statement " + statement, full.functionOf(statement), statement / 12);
    }
  }

  private static void functionOfRange() {
    Sentence.of(7, "Returns the function.");
    Due.same("0", Make.with("a=b").functionOf(0), 0);
    Due.same("3", Make.with("", "", "", "a=b").functionOf(0), 3);
  }

  private static void functionOfThrowsIndex() {
    Sentence.of(7, "Throws IndexOutOfBoundsException if there is no such statement");
    PointerAnalyzer full = fortyEight();
    PointerAnalyzer one = Make.with("", "a=b");
    for (int statement : Make.outside(1)) {
      Due.noIndex("of 1: " + statement, () -> one.functionOf(statement));
    }
    for (int statement : Make.outside(48)) {
      Due.noIndex("of 48: " + statement, () -> full.functionOf(statement));
    }
    for (int statement : Make.outside(0)) {
      Due.noIndex("of none: " + statement, () -> new PointerAnalyzer().functionOf(statement));
    }
  }

  private static void siteCount() {
    siteCountAnswer();
    siteCountRange();
  }

  private static void siteCountAnswer() {
    Sentence.of(8, "Returns the number of sites.");
    PointerAnalyzer analyzer = Make.with("a=new;a=&b;b=new", "", "", "a=new");
    Due.same("also of unreachable functions", analyzer.siteCount(), 3);
    Make.body(analyzer, 0, "a=b");
    Due.same("not of a body that was replaced", analyzer.siteCount(), 1);
  }

  private static void siteCountRange() {
    Sentence.of(8, "Returns 0 to 8.");
    Due.same("none", new PointerAnalyzer().siteCount(), 0);
    Due.same("not by other statements", Make.with("a=b;a=&b;a=f0(a)").siteCount(), 0);
    PointerAnalyzer full = new PointerAnalyzer();
    for (int count = 1; count <= 8; count++) {
      Make.body(full, 0, Make.times("a=new", count));
      Due.same("sites", full.siteCount(), count);
    }
    Make.type(full, Make.times("a=new", 9));
    Due.noState("a ninth", () -> full.setBody(0));
    Due.same("still 8", full.siteCount(), 8);
  }
}
