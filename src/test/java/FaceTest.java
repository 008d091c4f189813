import java.lang.reflect.Constructor;
import java.lang.reflect.Field;
import java.lang.reflect.Member;
import java.lang.reflect.Method;
import java.lang.reflect.Modifier;
import java.util.ArrayList;
import java.util.List;
import java.util.TreeSet;

/** The face is the document's, and nothing more can be seen of the class. */
final class FaceTest {
  private static final String[] FACE = {
    "int appendCharacter(int) IllegalArgumentException IllegalStateException",
    "int setBody(int) IndexOutOfBoundsException IllegalArgumentException IllegalStateException",
    "int faultPosition()",
    "int statementCount()",
    "int kind(int) IndexOutOfBoundsException",
    "int functionOf(int) IndexOutOfBoundsException",
    "int siteCount()",
    "int setLimit(int) IllegalArgumentException",
    "int contextCount(int) IndexOutOfBoundsException",
    "int contextLength(int int) IndexOutOfBoundsException",
    "int contextCall(int int int) IndexOutOfBoundsException",
    "long pointsTo(int) IndexOutOfBoundsException",
    "long pointsToIn(int int) IndexOutOfBoundsException",
    "long fieldPointsTo(int int) IndexOutOfBoundsException",
    "int factCount()",
    "boolean mayAlias(int int) IndexOutOfBoundsException",
    "long reach(int) IndexOutOfBoundsException",
    "int escapingSites()",
    "int rank(int int) IndexOutOfBoundsException NoSuchElementException",
    "int reason(int int) IndexOutOfBoundsException NoSuchElementException",
    "int roundCount()",
    "long unifiedTargets(int) IndexOutOfBoundsException",
    "boolean areUnified(int int) IndexOutOfBoundsException",
    "int unifiedClasses()",
    "long modifies(int) IndexOutOfBoundsException",
    "boolean isReachable(int) IndexOutOfBoundsException",
    "boolean isRecursive(int) IndexOutOfBoundsException",
    "int cycleOf(int) IndexOutOfBoundsException",
    "int run()",
    "long observed(int) IndexOutOfBoundsException",
    "long fieldObserved(int int) IndexOutOfBoundsException",
    "int faults()",
    "int objects()",
    "double precision() ArithmeticException",
    "float averageTargets() ArithmeticException",
    "void save()",
    "void restore() IllegalStateException"
  };

  public static void main(String[] args) {
    TreeSet<String> found = new TreeSet<>();
    TreeSet<String> names = new TreeSet<>();
    List<Member> others = new ArrayList<>();
    for (Method method : PointerAnalyzer.class.getDeclaredMethods()) {
      if (Modifier.isPublic(method.getModifiers())) {
        found.add(told(method));
        names.add(method.getName());
      } else {
        others.add(method);
      }
    }
    others.addAll(List.of(PointerAnalyzer.class.getDeclaredFields()));
    Due.equal("the face", found, new TreeSet<>(List.of(FACE)));
    Due.none("members that are neither of the face nor private", visible(others));
    Due.none("private methods with a name of the face", named(names));
    Due.none("static fields that are not final", changing());
    sameClass();
    Due.finish();
  }

  private static String told(Method method) {
    StringBuilder text = new StringBuilder();
    text.append(method.getReturnType().getSimpleName()).append(' ').append(method.getName()).append('(');
    for (Class<?> type : method.getParameterTypes()) {
      text.append(text.charAt(text.length() - 1) == '(' ? "" : " ").append(type.getSimpleName());
    }
    text.append(')');
    for (Class<?> type : method.getExceptionTypes()) {
      text.append(' ').append(type.getSimpleName());
    }
    return text.toString();
  }

  private static List<String> visible(List<Member> members) {
    List<String> found = new ArrayList<>();
    for (Member member : members) {
      if (!Modifier.isPrivate(member.getModifiers()) && !member.isSynthetic()) {
        found.add(member.getName());
      }
    }
    return found;
  }

  private static List<String> named(TreeSet<String> names) {
    List<String> found = new ArrayList<>();
    for (Class<?> inside : classes()) {
      for (Method method : inside.getDeclaredMethods()) {
        if (!Modifier.isPublic(method.getModifiers()) && names.contains(method.getName())) {
          found.add(inside.getName() + "." + method.getName());
        }
      }
    }
    return found;
  }

  private static List<String> changing() {
    List<String> found = new ArrayList<>();
    for (Class<?> inside : classes()) {
      for (Field field : inside.getDeclaredFields()) {
        if (Modifier.isStatic(field.getModifiers()) && !Modifier.isFinal(field.getModifiers())) {
          found.add(inside.getName() + "." + field.getName());
        }
      }
    }
    return found;
  }

  private static List<Class<?>> classes() {
    List<Class<?>> classes = new ArrayList<>(List.of(PointerAnalyzer.class.getDeclaredClasses()));
    classes.add(PointerAnalyzer.class);
    return classes;
  }

  private static void sameClass() {
    int modifiers = PointerAnalyzer.class.getModifiers();
    Due.same("public", Modifier.isPublic(modifiers), true);
    Due.same("final", Modifier.isFinal(modifiers), true);
    Constructor<?>[] constructors = PointerAnalyzer.class.getDeclaredConstructors();
    Due.same("constructors", constructors.length, 1);
    Due.same("public constructor", Modifier.isPublic(constructors[0].getModifiers()), true);
    Due.same("without parameters", constructors[0].getParameterCount(), 0);
    Due.same("classes of the file", classes().size() <= 12, true);
    for (Class<?> inside : PointerAnalyzer.class.getDeclaredClasses()) {
      Due.same("static " + inside, Modifier.isStatic(inside.getModifiers()), true);
      Due.same("not public " + inside, Modifier.isPublic(inside.getModifiers()), false);
      Due.same("not protected " + inside, Modifier.isProtected(inside.getModifiers()), false);
    }
  }
}
