import java.util.List;
import java.util.NoSuchElementException;

/** Counts the answers that are looked at, and prints those that are not as due. */
final class Due {
  interface Call {
    void make();
  }

  private static int looked = 0;
  private static int wrong = 0;
  private static String place = "";

  private Due() {
  }

  /** What is looked at from now on belongs there; a wrong answer is told with it. */
  static void at(String where) {
    place = where;
  }

  static int looked() {
    return looked;
  }

  static void same(String what, long answer, long due) {
    looked++;
    if (answer != due) {
      tell(what + " answered " + answer + ", due is " + due);
    }
  }

  static void same(String what, boolean answer, boolean due) {
    same(what, answer ? 1 : 0, due ? 1 : 0);
  }

  static void exact(String what, double answer, double due) {
    looked++;
    if (Double.compare(answer, due) != 0) {
      tell(what + " answered " + answer + ", due is " + due);
    }
  }

  static void equal(String what, Object answer, Object due) {
    looked++;
    if (!due.equals(answer)) {
      tell(what + " answered " + answer + ", due is " + due);
    }
  }

  /** The exception must be of the very class, as the machine's own are often below it. */
  static void thrown(String what, Class<? extends RuntimeException> due, Call call) {
    looked++;
    String answer = "nothing";
    try {
      call.make();
    } catch (RuntimeException e) {
      answer = e.getClass().getName();
    }
    if (!answer.equals(due.getName())) {
      tell(what + " threw " + answer + ", due is " + due.getName());
    }
  }

  static void noIndex(String what, Call call) {
    thrown(what, IndexOutOfBoundsException.class, call);
  }

  static void noArgument(String what, Call call) {
    thrown(what, IllegalArgumentException.class, call);
  }

  static void noState(String what, Call call) {
    thrown(what, IllegalStateException.class, call);
  }

  static void noElement(String what, Call call) {
    thrown(what, NoSuchElementException.class, call);
  }

  static void noQuotient(String what, Call call) {
    thrown(what, ArithmeticException.class, call);
  }

  static void none(String what, List<String> found) {
    looked++;
    if (!found.isEmpty()) {
      tell(what + ": " + found);
    }
  }

  private static void tell(String line) {
    wrong++;
    if (wrong <= 50) {
      System.out.println("  " + place + line);
    }
  }

  static void finish() {
    System.out.println("  " + looked + " answers looked at, " + wrong + " not as due");
    if (wrong != 0 || looked == 0) {
      System.exit(1);
    }
  }
}
