import java.util.NoSuchElementException;

/** A points-to analyzer for small programs; DOC.md tells what each method of the face promises. */
public final class PointerAnalyzer {
  private static final int FUNCTIONS = 4;
  private static final int GLOBALS = 4;
  private static final int LOCALS = 4;
  private static final int VARIABLES = GLOBALS + FUNCTIONS * LOCALS;
  private static final int BODY_STATEMENTS = 12;
  private static final int STATEMENTS = FUNCTIONS * BODY_STATEMENTS;
  private static final int SITES = 8;
  private static final int CALLS = 5;
  private static final int FIELDS = 3;
  private static final int TARGETS = VARIABLES + SITES * FIELDS;
  private static final int GREATEST_LIMIT = 2;

  private static final int ADDRESS = 0;
  private static final int COPY = 1;
  private static final int LOAD = 2;
  private static final int STORE = 3;
  private static final int ALLOCATION = 4;
  private static final int OFFSET = 5;
  private static final int CALL = 6;

  private final BodyText text = new BodyText();
  private final Draft draft = new Draft();
  private final Program program = new Program();
  private final Program kept = new Program();
  private final Inclusion inclusion = new Inclusion();
  private final Inclusion plain = new Inclusion();
  private final Unification unification = new Unification();
  private final Graph graph = new Graph();
  private final Machine machine = new Machine();
  private int fault = -1;
  private boolean somethingKept = false;

  public PointerAnalyzer() {
  }

  public int appendCharacter(int character)
      throws IllegalArgumentException, IllegalStateException {
    if (character < 33 || character > 126) {
      throw new IllegalArgumentException("the character is not from 33 to 126");
    }
    if (text.isFull()) {
      throw new IllegalStateException("the text has 80 characters");
    }
    return text.append(character);
  }

  public int setBody(int function)
      throws IndexOutOfBoundsException, IllegalArgumentException, IllegalStateException {
    checkFunction(function);
    fault = text.read(function, draft);
    text.empty();
    if (fault >= 0) {
      throw new IllegalArgumentException("the text is not a body text");
    }
    if (!program.hasRoomFor(function, draft)) {
      throw new IllegalStateException("too many statements, allocations or calls");
    }
    program.replaceBody(function, draft);
    forgetAnswers();
    return draft.size();
  }

  public int faultPosition() {
    return fault;
  }

  public int statementCount() {
    return program.size();
  }

  public int kind(int statement) throws IndexOutOfBoundsException {
    checkStatement(statement);
    return program.kindAt(statement);
  }

  public int functionOf(int statement) throws IndexOutOfBoundsException {
    checkStatement(statement);
    return program.ownerAt(statement);
  }

  public int siteCount() {
    return program.sites();
  }

  public int setLimit(int limit) throws IllegalArgumentException {
    if (limit < 0 || limit > GREATEST_LIMIT) {
      throw new IllegalArgumentException("the limit is not from 0 to 2");
    }
    int previous = program.limit();
    program.limitTo(limit);
    inclusion.forget();
    return previous;
  }

  public int contextCount(int function) throws IndexOutOfBoundsException {
    checkFunction(function);
    inclusion.solve(program, program.limit());
    return inclusion.contexts().sizeOf(function);
  }

  public int contextLength(int function, int context) throws IndexOutOfBoundsException {
    inclusion.solve(program, program.limit());
    checkContext(function, context);
    return inclusion.contexts().lengthOf(function, context);
  }

  public int contextCall(int function, int context, int position)
      throws IndexOutOfBoundsException {
    inclusion.solve(program, program.limit());
    checkContext(function, context);
    if (position < 0 || position >= inclusion.contexts().lengthOf(function, context)) {
      throw new IndexOutOfBoundsException("no such position");
    }
    return inclusion.contexts().callOf(function, context, position);
  }

  public long pointsTo(int variable) throws IndexOutOfBoundsException {
    checkVariable(variable);
    inclusion.solve(program, program.limit());
    return inclusion.targetsOf(variable);
  }

  public long pointsToIn(int variable, int context) throws IndexOutOfBoundsException {
    checkVariable(variable);
    inclusion.solve(program, program.limit());
    if (variable >= GLOBALS) {
      checkContext(ownerOfLocal(variable), context);
    } else if (context != 0) {
      throw new IndexOutOfBoundsException("no such context");
    }
    return inclusion.targetsIn(variable, context);
  }

  public long fieldPointsTo(int site, int field) throws IndexOutOfBoundsException {
    checkField(site, field);
    inclusion.solve(program, program.limit());
    return inclusion.targetsOf(fieldCode(site, field));
  }

  public int factCount() {
    inclusion.solve(program, program.limit());
    return inclusion.facts();
  }

  public boolean mayAlias(int first, int second) throws IndexOutOfBoundsException {
    checkVariable(first);
    checkVariable(second);
    inclusion.solve(program, program.limit());
    return (inclusion.targetsOf(first) & inclusion.targetsOf(second)) != 0;
  }

  public long reach(int variable) throws IndexOutOfBoundsException {
    checkVariable(variable);
    inclusion.solve(program, program.limit());
    drawPointers();
    return graph.row(variable);
  }

  public int escapingSites() {
    inclusion.solve(program, program.limit());
    drawPointers();
    long reached = 0;
    for (int variable = 0; variable < GLOBALS; variable++) {
      reached |= graph.row(variable);
    }
    int sites = 0;
    for (int site = 0; site < SITES; site++) {
      if ((reached & allFields(site)) != 0) {
        sites |= 1 << site;
      }
    }
    return sites;
  }

  public int rank(int variable, int target)
      throws IndexOutOfBoundsException, NoSuchElementException {
    plain.solve(program, 0);
    checkPlainFact(variable, target);
    return plain.roundOf(variable, target);
  }

  public int reason(int variable, int target)
      throws IndexOutOfBoundsException, NoSuchElementException {
    plain.solve(program, 0);
    checkPlainFact(variable, target);
    return plain.originOf(variable, target);
  }

  public int roundCount() {
    plain.solve(program, 0);
    return plain.rounds();
  }

  public long unifiedTargets(int variable) throws IndexOutOfBoundsException {
    checkVariable(variable);
    unification.solve(program);
    return unification.targetsOf(variable, program.sites());
  }

  public boolean areUnified(int first, int second) throws IndexOutOfBoundsException {
    checkVariable(first);
    checkVariable(second);
    unification.solve(program);
    return unification.joins(first, second);
  }

  public int unifiedClasses() {
    unification.solve(program);
    return unification.classes(program.sites());
  }

  public long modifies(int function) throws IndexOutOfBoundsException {
    checkFunction(function);
    inclusion.solve(program, program.limit());
    drawCalls();
    long functions = graph.row(function) | 1L << function;
    long modified = 0;
    for (int statement = 0; statement < program.size(); statement++) {
      if (program.kindAt(statement) == STORE && has(functions, program.ownerAt(statement))) {
        modified |= inclusion.targetsOf(program.leftAt(statement));
      }
    }
    return modified;
  }

  public boolean isReachable(int function) throws IndexOutOfBoundsException {
    checkFunction(function);
    inclusion.solve(program, program.limit());
    return inclusion.contexts().sizeOf(function) > 0;
  }

  public boolean isRecursive(int function) throws IndexOutOfBoundsException {
    checkFunction(function);
    drawCalls();
    return has(graph.row(function), function);
  }

  public int cycleOf(int variable) throws IndexOutOfBoundsException {
    checkVariable(variable);
    drawFlow();
    long after = graph.row(variable);
    int cycle = 1 << variable;
    for (int other = 0; other < VARIABLES; other++) {
      if (has(after, other) && has(graph.row(other), variable)) {
        cycle |= 1 << other;
      }
    }
    return cycle;
  }

  public int run() {
    machine.play(program);
    return machine.executed();
  }

  public long observed(int variable) throws IndexOutOfBoundsException {
    checkVariable(variable);
    return machine.seenAt(variable);
  }

  public long fieldObserved(int site, int field) throws IndexOutOfBoundsException {
    checkField(site, field);
    return machine.seenAt(fieldCode(site, field));
  }

  public int faults() {
    return machine.failed();
  }

  public int objects() {
    return machine.made();
  }

  public double precision() throws ArithmeticException {
    inclusion.solve(program, program.limit());
    unification.solve(program);
    int included = 0;
    int unified = 0;
    for (int variable = 0; variable < VARIABLES; variable++) {
      included += Long.bitCount(inclusion.targetsOf(variable));
      unified += Long.bitCount(unification.targetsOf(variable, program.sites()));
    }
    if (unified == 0) {
      throw new ArithmeticException("no variable has a target by the unification analysis");
    }
    return (double) included / (double) unified;
  }

  public float averageTargets() throws ArithmeticException {
    inclusion.solve(program, program.limit());
    int targets = 0;
    int variables = 0;
    for (int variable = 0; variable < VARIABLES; variable++) {
      int own = Long.bitCount(inclusion.targetsOf(variable));
      targets += own;
      variables += own > 0 ? 1 : 0;
    }
    if (variables == 0) {
      throw new ArithmeticException("no variable points to a target");
    }
    return (float) targets / (float) variables;
  }

  public void save() {
    kept.copyFrom(program);
    somethingKept = true;
  }

  public void restore() throws IllegalStateException {
    if (!somethingKept) {
      throw new IllegalStateException("nothing was saved");
    }
    program.copyFrom(kept);
    forgetAnswers();
  }

  private void forgetAnswers() {
    inclusion.forget();
    plain.forget();
    unification.forget();
    machine.clear();
  }

  private void drawPointers() {
    graph.clear();
    for (int code = 0; code < TARGETS; code++) {
      graph.connectAll(code, inclusion.targetsOf(code));
    }
    graph.close();
  }

  private void drawCalls() {
    graph.clear();
    for (int statement = 0; statement < program.size(); statement++) {
      if (program.kindAt(statement) == CALL) {
        graph.connect(program.ownerAt(statement), program.numberAt(statement));
      }
    }
    graph.close();
  }

  private void drawFlow() {
    graph.clear();
    for (int statement = 0; statement < program.size(); statement++) {
      int left = program.leftAt(statement);
      int right = program.rightAt(statement);
      int callee = program.numberAt(statement);
      if (program.kindAt(statement) == COPY) {
        graph.connect(right, left);
      } else if (program.kindAt(statement) == CALL) {
        graph.connect(right, parameterOf(callee));
        graph.connect(resultOf(callee), left);
      }
    }
    graph.close();
  }

  private void checkFunction(int function) {
    if (function < 0 || function >= FUNCTIONS) {
      throw new IndexOutOfBoundsException("no such function");
    }
  }

  private void checkContext(int function, int context) {
    checkFunction(function);
    if (context < 0 || context >= inclusion.contexts().sizeOf(function)) {
      throw new IndexOutOfBoundsException("no such context");
    }
  }

  private void checkStatement(int statement) {
    if (statement < 0 || statement >= program.size()) {
      throw new IndexOutOfBoundsException("no such statement");
    }
  }

  private void checkVariable(int variable) {
    if (variable < 0 || variable >= VARIABLES) {
      throw new IndexOutOfBoundsException("no such variable");
    }
  }

  private void checkField(int site, int field) {
    if (site < 0 || site >= program.sites() || field < 0 || field >= FIELDS) {
      throw new IndexOutOfBoundsException("no such site or field");
    }
  }

  private void checkPlainFact(int variable, int target) {
    checkVariable(variable);
    if (target < 0 || target >= fieldCode(program.sites(), 0)) {
      throw new IndexOutOfBoundsException("no such target");
    }
    if (!has(plain.targetsOf(variable), target)) {
      throw new NoSuchElementException("no such fact with the limit 0");
    }
  }

  private static int parameterOf(int function) {
    return GLOBALS + LOCALS * function;
  }

  private static int resultOf(int function) {
    return parameterOf(function) + 1;
  }

  private static int ownerOfLocal(int variable) {
    return (variable - GLOBALS) / LOCALS;
  }

  private static int fieldCode(int site, int field) {
    return VARIABLES + FIELDS * site + field;
  }

  private static long allFields(int site) {
    return 7L << fieldCode(site, 0);
  }

  private static boolean has(long set, int member) {
    return (set >>> member & 1L) != 0;
  }

  /** Rows of numbers, whose indices are looked at first, so that the machine never throws. */
  private static final class Rows {
    static int get(int[] row, int index) {
      return index >= 0 && index < row.length ? row[index] : 0;
    }

    static long get(long[] row, int index) {
      return index >= 0 && index < row.length ? row[index] : 0L;
    }

    static void put(int[] row, int index, int value) {
      if (index >= 0 && index < row.length) {
        row[index] = value;
      }
    }

    static void unite(long[] row, int index, long bits) {
      if (index >= 0 && index < row.length) {
        row[index] |= bits;
      }
    }

    static void fill(long[] row, long value) {
      for (int index = 0; index < row.length; index++) {
        row[index] = value;
      }
    }

    static void copy(int[] from, int[] to) {
      for (int index = 0; index < from.length && index < to.length; index++) {
        to[index] = from[index];
      }
    }

    static void copy(long[] from, long[] to) {
      for (int index = 0; index < from.length && index < to.length; index++) {
        to[index] = from[index];
      }
    }
  }

  /** A statement as one number, so that bodies are copied and kept as plain rows. */
  private static final class Statement {
    static int pack(int kind, int left, int right, int number) {
      return kind | left << 3 | right << 8 | number << 13;
    }

    static int kindIn(int packed) {
      return packed & 7;
    }

    static int leftIn(int packed) {
      return packed >> 3 & 31;
    }

    static int rightIn(int packed) {
      return packed >> 8 & 31;
    }

    static int numberIn(int packed) {
      return packed >> 13 & 3;
    }
  }

  /** A body that has been read but not yet taken; it counts also the statements beyond its room. */
  private static final class Draft {
    private final int[] statements = new int[BODY_STATEMENTS];
    private int size;
    private int allocations;
    private int calls;

    void empty() {
      size = 0;
      allocations = 0;
      calls = 0;
    }

    /** Always answers true, so that a reader can end with it. */
    boolean add(int kind, int left, int right, int number) {
      Rows.put(statements, size, Statement.pack(kind, left, right, number));
      size++;
      allocations += kind == ALLOCATION ? 1 : 0;
      calls += kind == CALL ? 1 : 0;
      return true;
    }

    int size() {
      return size;
    }

    int allocations() {
      return allocations;
    }

    int calls() {
      return calls;
    }

    int get(int index) {
      return Rows.get(statements, index);
    }
  }

  /** The text and its reader, which goes forward only: where it stops, there is the fault. */
  private static final class BodyText {
    private static final int MOST = 80;
    private final int[] characters = new int[MOST];
    private int length;
    private int position;
    private int firstLocal;

    boolean isFull() {
      return length >= MOST;
    }

    int append(int character) {
      Rows.put(characters, length, character);
      length++;
      return length;
    }

    void empty() {
      length = 0;
    }

    /** Answers the fault position, or -1 if the draft holds the whole body. */
    int read(int function, Draft draft) {
      firstLocal = parameterOf(function);
      position = 0;
      draft.empty();
      if (length == 0) {
        return -1;
      }
      for (int statement = 0; statement < MOST; statement++) {
        if (!readStatement(draft)) {
          return position;
        }
        if (position == length) {
          return -1;
        }
        if (!accept(';')) {
          return position;
        }
      }
      return position;
    }

    private boolean readStatement(Draft draft) {
      if (accept('*')) {
        return readStore(draft);
      }
      int left = readVariable();
      if (left < 0 || !accept('=')) {
        return false;
      }
      if (accept('&')) {
        return readOperand(draft, ADDRESS, left);
      }
      if (accept('*')) {
        return readOperand(draft, LOAD, left);
      }
      if (accept('n')) {
        return accept('e') && accept('w') && draft.add(ALLOCATION, left, 0, 0);
      }
      if (accept('f')) {
        return readCall(draft, left);
      }
      return readCopyOrOffset(draft, left);
    }

    private boolean readStore(Draft draft) {
      int left = readVariable();
      return left >= 0 && accept('=') && readOperand(draft, STORE, left);
    }

    private boolean readOperand(Draft draft, int kind, int left) {
      int right = readVariable();
      return right >= 0 && draft.add(kind, left, right, 0);
    }

    private boolean readCall(Draft draft, int left) {
      int callee = readDigit(FUNCTIONS - 1);
      if (callee < 0 || !accept('(')) {
        return false;
      }
      int right = readVariable();
      return right >= 0 && accept(')') && draft.add(CALL, left, right, callee);
    }

    private boolean readCopyOrOffset(Draft draft, int left) {
      int right = readVariable();
      if (right < 0) {
        return false;
      }
      if (!accept('+')) {
        return draft.add(COPY, left, right, 0);
      }
      int offset = readDigit(FIELDS - 1);
      return offset >= 0 && draft.add(OFFSET, left, right, offset);
    }

    private boolean accept(char wanted) {
      if (current() != wanted) {
        return false;
      }
      position++;
      return true;
    }

    private int readDigit(int greatest) {
      int digit = current() - '0';
      if (digit < 0 || digit > greatest) {
        return -1;
      }
      position++;
      return digit;
    }

    private int readVariable() {
      int variable = variableNamed(current());
      if (variable >= 0) {
        position++;
      }
      return variable;
    }

    private int variableNamed(int name) {
      if (name >= 'a' && name <= 'd') {
        return name - 'a';
      }
      switch (name) {
        case 'p':
          return firstLocal;
        case 'r':
          return firstLocal + 1;
        case 'x':
          return firstLocal + 2;
        case 'y':
          return firstLocal + 3;
        default:
          return -1;
      }
    }

    private int current() {
      boolean isInText = position >= 0 && position < length && position < characters.length;
      return isInText ? characters[position] : -1;
    }
  }

  /** The bodies and the limit, with the numbers that statements and sites have by them. */
  private static final class Program {
    private final int[] bodies = new int[STATEMENTS];
    private final int[] sizes = new int[FUNCTIONS];
    private int limit;
    private final int[] numbered = new int[STATEMENTS];
    private final int[] owners = new int[STATEMENTS];
    private final int[] siteNumbers = new int[STATEMENTS];
    private final int[] starts = new int[FUNCTIONS + 1];
    private int sites;

    int limit() {
      return limit;
    }

    void limitTo(int greatest) {
      limit = greatest;
    }

    boolean hasRoomFor(int function, Draft draft) {
      return draft.size() <= BODY_STATEMENTS
          && draft.allocations() + countElsewhere(function, ALLOCATION) <= SITES
          && draft.calls() + countElsewhere(function, CALL) <= CALLS;
    }

    private int countElsewhere(int function, int kind) {
      int count = 0;
      for (int statement = 0; statement < size(); statement++) {
        if (kindAt(statement) == kind && ownerAt(statement) != function) {
          count++;
        }
      }
      return count;
    }

    void replaceBody(int function, Draft draft) {
      for (int index = 0; index < BODY_STATEMENTS; index++) {
        Rows.put(bodies, BODY_STATEMENTS * function + index, draft.get(index));
      }
      Rows.put(sizes, function, draft.size());
      number();
    }

    void copyFrom(Program other) {
      Rows.copy(other.bodies, bodies);
      Rows.copy(other.sizes, sizes);
      limit = other.limit;
      number();
    }

    private void number() {
      int statement = 0;
      sites = 0;
      for (int function = 0; function < FUNCTIONS; function++) {
        Rows.put(starts, function, statement);
        int size = Rows.get(sizes, function);
        for (int index = 0; index < size; index++) {
          int packed = Rows.get(bodies, BODY_STATEMENTS * function + index);
          Rows.put(numbered, statement, packed);
          Rows.put(owners, statement, function);
          Rows.put(siteNumbers, statement, sites);
          sites += Statement.kindIn(packed) == ALLOCATION ? 1 : 0;
          statement++;
        }
      }
      Rows.put(starts, FUNCTIONS, statement);
    }

    int size() {
      return startOf(FUNCTIONS);
    }

    int sites() {
      return sites;
    }

    int startOf(int function) {
      return Rows.get(starts, function);
    }

    int endOf(int function) {
      return Rows.get(starts, function + 1);
    }

    int kindAt(int statement) {
      return Statement.kindIn(Rows.get(numbered, statement));
    }

    int leftAt(int statement) {
      return Statement.leftIn(Rows.get(numbered, statement));
    }

    int rightAt(int statement) {
      return Statement.rightIn(Rows.get(numbered, statement));
    }

    int numberAt(int statement) {
      return Statement.numberIn(Rows.get(numbered, statement));
    }

    int ownerAt(int statement) {
      return Rows.get(owners, statement);
    }

    int siteAt(int statement) {
      return Rows.get(siteNumbers, statement);
    }
  }

  /**
   * The contexts of all functions under a limit. A context has a key that grows with its length
   * and then in lexicographic order; an entry is a function with a key, and entries are ascending.
   */
  private static final class Contexts {
    private static final int MOST = 1 + CALLS + CALLS * CALLS;
    private static final int SINGLES = 1;
    private static final int PAIRS = SINGLES + STATEMENTS;
    private static final int KEYS = PAIRS + STATEMENTS * STATEMENTS;
    private final int[] entries = new int[MOST];
    private final int[] firsts = new int[FUNCTIONS + 1];
    private int size;
    private int limit;

    void arrange(Program program, int greatestLength) {
      limit = greatestLength;
      size = 0;
      enter(0);
      for (int entry = 0; entry < MOST && entry < size; entry++) {
        followCalls(program, Rows.get(entries, entry));
      }
      sort();
      for (int function = 0; function <= FUNCTIONS; function++) {
        Rows.put(firsts, function, countBelow(function * KEYS));
      }
    }

    private void followCalls(Program program, int entry) {
      int function = entry / KEYS;
      for (int call = program.startOf(function); call < program.endOf(function); call++) {
        if (program.kindAt(call) == CALL) {
          enter(program.numberAt(call) * KEYS + extended(entry % KEYS, call));
        }
      }
    }

    private int extended(int key, int call) {
      if (limit == 0) {
        return 0;
      }
      if (limit == 1 || key == 0) {
        return SINGLES + call;
      }
      return PAIRS + lastCall(key) * STATEMENTS + call;
    }

    private static int lastCall(int key) {
      return key >= PAIRS ? (key - PAIRS) % STATEMENTS : key - SINGLES;
    }

    private void enter(int wanted) {
      if (find(wanted) < 0 && size < MOST) {
        Rows.put(entries, size, wanted);
        size++;
      }
    }

    private int find(int wanted) {
      for (int entry = 0; entry < size; entry++) {
        if (Rows.get(entries, entry) == wanted) {
          return entry;
        }
      }
      return -1;
    }

    private void sort() {
      for (int end = 1; end < size; end++) {
        int moved = Rows.get(entries, end);
        int place = end;
        for (; place > 0 && Rows.get(entries, place - 1) > moved; place--) {
          Rows.put(entries, place, Rows.get(entries, place - 1));
        }
        Rows.put(entries, place, moved);
      }
    }

    private int countBelow(int bound) {
      int count = 0;
      for (int entry = 0; entry < size; entry++) {
        count += Rows.get(entries, entry) < bound ? 1 : 0;
      }
      return count;
    }

    int size() {
      return size;
    }

    int sizeOf(int function) {
      return Rows.get(firsts, function + 1) - Rows.get(firsts, function);
    }

    /** The place of a function's context among those of all functions. */
    int placeOf(int function, int context) {
      return Rows.get(firsts, function) + context;
    }

    int ownerAt(int place) {
      return Rows.get(entries, place) / KEYS;
    }

    private int keyAt(int place) {
      return Rows.get(entries, place) % KEYS;
    }

    int lengthOf(int function, int context) {
      int key = keyAt(placeOf(function, context));
      if (key == 0) {
        return 0;
      }
      return key < PAIRS ? 1 : 2;
    }

    int callOf(int function, int context, int position) {
      int key = keyAt(placeOf(function, context));
      return key >= PAIRS && position == 0 ? (key - PAIRS) / STATEMENTS : lastCall(key);
    }

    /** The place of the context to which a call leads from the context at a place. */
    int placeAfter(int place, int call, int callee) {
      return find(callee * KEYS + extended(keyAt(place), call));
    }
  }

  /**
   * The inclusion analysis under a limit, round by round: a round reads only what was known before
   * it, so that the round in which a fact comes, and the first statement that brings it, are its
   * rank and reason. The cells are the globals, four locals for each context, and the fields.
   */
  private static final class Inclusion {
    private static final int WORDS = 3;
    private static final int FIELD_CELLS = GLOBALS + LOCALS * Contexts.MOST;
    private static final int CELLS = FIELD_CELLS + FIELDS * SITES;
    private static final long FIRST_FIELDS = 0x249249L;
    private final Contexts contexts = new Contexts();
    private final long[] known = new long[CELLS * WORDS];
    private final long[] growing = new long[CELLS * WORDS];
    private final int[] codes = new int[CELLS];
    private final int[] pointees = new int[CELLS];
    private final long[] targets = new long[TARGETS];
    private final int[] roundsOfFacts = new int[TARGETS * TARGETS];
    private final int[] originsOfFacts = new int[TARGETS * TARGETS];
    private boolean stale = true;
    private int facts;
    private int rounds;
    private int round;
    private int statement;

    void forget() {
      stale = true;
    }

    void solve(Program program, int limit) {
      if (!stale) {
        return;
      }
      stale = false;
      contexts.arrange(program, limit);
      clear();
      int factsBefore = -1;
      for (int next = 1; next <= CELLS * CELLS + 1 && facts > factsBefore; next++) {
        factsBefore = facts;
        round = next;
        Rows.copy(growing, known);
        for (int place = 0; place < contexts.size(); place++) {
          int function = contexts.ownerAt(place);
          for (int each = program.startOf(function); each < program.endOf(function); each++) {
            statement = each;
            apply(program, place);
          }
        }
      }
    }

    private void clear() {
      facts = 0;
      rounds = 0;
      Rows.fill(growing, 0L);
      Rows.fill(targets, 0L);
      for (int cell = 0; cell < CELLS; cell++) {
        Rows.put(codes, cell, codeOf(cell));
      }
    }

    private int codeOf(int cell) {
      if (cell >= FIELD_CELLS) {
        return VARIABLES + cell - FIELD_CELLS;
      }
      if (cell < GLOBALS) {
        return cell;
      }
      int local = cell - GLOBALS;
      return parameterOf(contexts.ownerAt(local / LOCALS)) + local % LOCALS;
    }

    private void apply(Program program, int place) {
      int left = cell(program.leftAt(statement), place);
      int right = cell(program.rightAt(statement), place);
      int number = program.numberAt(statement);
      switch (program.kindAt(statement)) {
        case ADDRESS:
          add(left, right);
          break;
        case LOAD:
          addLoaded(left, right);
          break;
        case STORE:
          addStored(left, right);
          break;
        case ALLOCATION:
          add(left, FIELD_CELLS + FIELDS * program.siteAt(statement));
          break;
        case OFFSET:
          addShifted(left, right, number);
          break;
        case CALL:
          int calleePlace = contexts.placeAfter(place, statement, number);
          addAll(cell(parameterOf(number), calleePlace), right);
          addAll(left, cell(resultOf(number), calleePlace));
          break;
        default:
          addAll(left, right);
          break;
      }
    }

    private static int cell(int variable, int place) {
      return variable < GLOBALS
          ? variable
          : GLOBALS + LOCALS * place + (variable - GLOBALS) % LOCALS;
    }

    private void addLoaded(int left, int right) {
      int count = listPointees(right);
      for (int index = 0; index < count; index++) {
        addAll(left, Rows.get(pointees, index));
      }
    }

    private void addStored(int left, int right) {
      int count = listPointees(left);
      for (int index = 0; index < count; index++) {
        addAll(Rows.get(pointees, index), right);
      }
    }

    private int listPointees(int cell) {
      int count = 0;
      for (int word = 0; word < WORDS; word++) {
        long bits = word(cell, word);
        for (int bit = 0; bit < 64 && bits >>> bit != 0; bit++) {
          if (has(bits, bit)) {
            Rows.put(pointees, count, 64 * word + bit);
            count++;
          }
        }
      }
      return count;
    }

    private void addShifted(int left, int right, int offset) {
      if (offset == 0) {
        addAll(left, right);
        return;
      }
      // The fields have a word of their own; only those that stay in their site are shifted.
      long staying = offset == 1 ? FIRST_FIELDS | FIRST_FIELDS << 1 : FIRST_FIELDS;
      addWord(left, WORDS - 1, (word(right, WORDS - 1) & staying) << offset);
    }

    private void add(int cell, int target) {
      addWord(cell, target >> 6, 1L << target);
    }

    private void addAll(int cell, int source) {
      for (int word = 0; word < WORDS; word++) {
        addWord(cell, word, word(source, word));
      }
    }

    private void addWord(int cell, int word, long bits) {
      long fresh = bits & ~Rows.get(growing, cell * WORDS + word);
      Rows.unite(growing, cell * WORDS + word, fresh);
      int code = Rows.get(codes, cell);
      for (int bit = 0; bit < 64 && fresh >>> bit != 0; bit++) {
        if (has(fresh, bit)) {
          int target = Rows.get(codes, 64 * word + bit);
          facts++;
          rounds = round;
          if (!has(Rows.get(targets, code), target)) {
            Rows.unite(targets, code, 1L << target);
            Rows.put(roundsOfFacts, code * TARGETS + target, round);
            Rows.put(originsOfFacts, code * TARGETS + target, statement);
          }
        }
      }
    }

    private long word(int cell, int word) {
      return Rows.get(known, cell * WORDS + word);
    }

    Contexts contexts() {
      return contexts;
    }

    int facts() {
      return facts;
    }

    int rounds() {
      return rounds;
    }

    long targetsOf(int code) {
      return Rows.get(targets, code);
    }

    long targetsIn(int variable, int context) {
      int place = variable < GLOBALS ? 0 : contexts.placeOf(ownerOfLocal(variable), context);
      int count = listPointees(cell(variable, place));
      long found = 0;
      for (int index = 0; index < count; index++) {
        found |= 1L << Rows.get(codes, Rows.get(pointees, index));
      }
      return found;
    }

    int roundOf(int code, int target) {
      return Rows.get(roundsOfFacts, code * TARGETS + target);
    }

    int originOf(int code, int target) {
      return Rows.get(originsOfFacts, code * TARGETS + target);
    }
  }

  /**
   * The unification analysis. No statement names a term beyond T(T(v)), so the variables, the
   * sites, and T(v) and T(T(v)) for each variable v are all the terms that have to be looked at.
   */
  private static final class Unification {
    private static final int PLAIN_TERMS = VARIABLES + SITES;
    private static final int TERMS = PLAIN_TERMS + 2 * VARIABLES;
    private static final int NONE = -1;
    private final int[] parents = new int[TERMS];
    private final int[] pointees = new int[TERMS];
    private boolean stale = true;

    void forget() {
      stale = true;
    }

    void solve(Program program) {
      if (!stale) {
        return;
      }
      stale = false;
      separate();
      for (int statement = 0; statement < program.size(); statement++) {
        apply(program, statement);
      }
    }

    private void separate() {
      for (int term = 0; term < TERMS; term++) {
        Rows.put(parents, term, term);
        Rows.put(pointees, term, NONE);
      }
      for (int variable = 0; variable < VARIABLES; variable++) {
        Rows.put(pointees, variable, pointee(variable));
        Rows.put(pointees, pointee(variable), secondPointee(variable));
      }
    }

    private static int pointee(int variable) {
      return PLAIN_TERMS + variable;
    }

    private static int secondPointee(int variable) {
      return PLAIN_TERMS + VARIABLES + variable;
    }

    private static int siteTerm(int site) {
      return VARIABLES + site;
    }

    private void apply(Program program, int statement) {
      int left = program.leftAt(statement);
      int right = program.rightAt(statement);
      int callee = program.numberAt(statement);
      switch (program.kindAt(statement)) {
        case ADDRESS:
          join(pointee(left), right);
          break;
        case LOAD:
          join(pointee(left), secondPointee(right));
          break;
        case STORE:
          join(secondPointee(left), pointee(right));
          break;
        case ALLOCATION:
          join(pointee(left), siteTerm(program.siteAt(statement)));
          break;
        case CALL:
          join(pointee(parameterOf(callee)), pointee(right));
          join(pointee(left), pointee(resultOf(callee)));
          break;
        default:
          join(pointee(left), pointee(right));
          break;
      }
    }

    /** Joins two classes, then those of their pointees, and so on; a step leaves a class less. */
    private void join(int first, int second) {
      int one = root(first);
      int other = root(second);
      for (int step = 0; step < TERMS && one != other; step++) {
        int pointeeOfOne = Rows.get(pointees, one);
        int pointeeOfOther = Rows.get(pointees, other);
        Rows.put(parents, other, one);
        if (pointeeOfOne == NONE) {
          Rows.put(pointees, one, pointeeOfOther);
        }
        if (pointeeOfOne == NONE || pointeeOfOther == NONE) {
          return;
        }
        one = root(pointeeOfOne);
        other = root(pointeeOfOther);
      }
    }

    private int root(int term) {
      int found = term;
      for (int step = 0; step < TERMS && Rows.get(parents, found) != found; step++) {
        found = Rows.get(parents, found);
      }
      return found;
    }

    boolean joins(int first, int second) {
      return root(first) == root(second);
    }

    long targetsOf(int variable, int sites) {
      int wanted = root(pointee(variable));
      long found = 0;
      for (int other = 0; other < VARIABLES; other++) {
        found |= root(other) == wanted ? 1L << other : 0L;
      }
      for (int site = 0; site < sites; site++) {
        found |= root(siteTerm(site)) == wanted ? allFields(site) : 0L;
      }
      return found;
    }

    int classes(int sites) {
      int count = 0;
      for (int term = 0; term < siteTerm(sites); term++) {
        count += isFirstOfClass(term) ? 1 : 0;
      }
      return count;
    }

    private boolean isFirstOfClass(int term) {
      for (int earlier = 0; earlier < term; earlier++) {
        if (joins(earlier, term)) {
          return false;
        }
      }
      return true;
    }
  }

  /** A graph with at most as many nodes as there are targets; closed, it tells of paths. */
  private static final class Graph {
    private final long[] rows = new long[TARGETS];

    void clear() {
      Rows.fill(rows, 0L);
    }

    void connect(int from, int to) {
      connectAll(from, 1L << to);
    }

    void connectAll(int from, long nodes) {
      Rows.unite(rows, from, nodes);
    }

    void close() {
      for (int middle = 0; middle < TARGETS; middle++) {
        for (int from = 0; from < TARGETS; from++) {
          if (has(row(from), middle)) {
            connectAll(from, row(middle));
          }
        }
      }
    }

    long row(int from) {
      return Rows.get(rows, from);
    }
  }

  /**
   * A run. Its memory grows by four cells with each activation and by three with each object, and
   * nothing is given back, so that pointers to activations that are over can still be used. A
   * pointer is the address of a cell; the address 0 is null.
   */
  private static final class Machine {
    private static final int MOST_EXECUTED = 200;
    private static final int MOST_OPEN = 6;
    private static final int CELLS = 1 + GLOBALS + LOCALS * (MOST_EXECUTED + 1);
    private final int[] pointers = new int[CELLS];
    private final int[] codes = new int[CELLS];
    private final long[] seen = new long[TARGETS];
    private final int[] functions = new int[MOST_OPEN];
    private final int[] following = new int[MOST_OPEN];
    private final int[] frames = new int[MOST_OPEN];
    private int depth;
    private int used;
    private int executed;
    private int failed;
    private int made;

    void clear() {
      depth = 0;
      used = 1;
      executed = 0;
      failed = 0;
      made = 0;
      Rows.fill(seen, 0L);
    }

    void play(Program program) {
      clear();
      takeCells(0, GLOBALS);
      open(program, 0);
      // A turn executes a statement or closes an activation, and each activation took a statement.
      int mostTurns = 2 * MOST_EXECUTED + 1;
      for (int turn = 0; turn < mostTurns && depth > 0 && executed < MOST_EXECUTED; turn++) {
        int statement = Rows.get(following, depth - 1);
        if (statement < program.endOf(Rows.get(functions, depth - 1))) {
          Rows.put(following, depth - 1, statement + 1);
          execute(program, statement);
        } else {
          close(program);
        }
      }
    }

    private int takeCells(int firstCode, int count) {
      int first = used;
      for (int index = 0; index < count; index++) {
        Rows.put(pointers, first + index, 0);
        Rows.put(codes, first + index, firstCode + index);
      }
      used += count;
      return first;
    }

    private void open(Program program, int function) {
      Rows.put(functions, depth, function);
      Rows.put(following, depth, program.startOf(function));
      Rows.put(frames, depth, takeCells(parameterOf(function), LOCALS));
      depth++;
    }

    private void close(Program program) {
      int result = read(addressOf(resultOf(Rows.get(functions, depth - 1))));
      depth--;
      if (depth > 0) {
        int call = Rows.get(following, depth - 1) - 1;
        write(addressOf(program.leftAt(call)), result);
      }
    }

    private void execute(Program program, int statement) {
      int left = addressOf(program.leftAt(statement));
      int right = addressOf(program.rightAt(statement));
      executed++;
      switch (program.kindAt(statement)) {
        case ADDRESS:
          write(left, right);
          break;
        case COPY:
          write(left, read(right));
          break;
        case LOAD:
          load(left, read(right));
          break;
        case STORE:
          store(read(left), read(right));
          break;
        case ALLOCATION:
          made++;
          write(left, takeCells(fieldCode(program.siteAt(statement), 0), FIELDS));
          break;
        case OFFSET:
          shift(left, read(right), program.numberAt(statement));
          break;
        default:
          call(program, program.numberAt(statement), read(right));
          break;
      }
    }

    private void load(int left, int pointer) {
      if (pointer == 0) {
        failed++;
      } else {
        write(left, read(pointer));
      }
    }

    private void store(int pointer, int value) {
      if (pointer == 0) {
        failed++;
      } else {
        write(pointer, value);
      }
    }

    private void shift(int left, int pointer, int offset) {
      if (pointer == 0 || offset == 0) {
        write(left, pointer);
        return;
      }
      int fromFirstField = Rows.get(codes, pointer) - VARIABLES;
      if (fromFirstField < 0 || fromFirstField % FIELDS + offset >= FIELDS) {
        failed++;
      } else {
        write(left, pointer + offset);
      }
    }

    private void call(Program program, int function, int argument) {
      if (depth < MOST_OPEN && executed < MOST_EXECUTED) {
        open(program, function);
        write(addressOf(parameterOf(function)), argument);
      }
    }

    /** The address of a variable in the activation that was opened last. */
    private int addressOf(int variable) {
      if (variable < GLOBALS) {
        return 1 + variable;
      }
      return Rows.get(frames, depth - 1) + (variable - GLOBALS) % LOCALS;
    }

    private int read(int address) {
      return Rows.get(pointers, address);
    }

    private void write(int address, int pointer) {
      Rows.put(pointers, address, pointer);
      if (pointer != 0) {
        Rows.unite(seen, Rows.get(codes, address), 1L << Rows.get(codes, pointer));
      }
    }

    int executed() {
      return executed;
    }

    int failed() {
      return failed;
    }

    int made() {
      return made;
    }

    long seenAt(int code) {
      return Rows.get(seen, code);
    }
  }
}
