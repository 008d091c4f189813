import java.io.IOException;
import java.nio.file.Files;
import java.nio.file.Path;
import java.util.ArrayList;
import java.util.List;
import java.util.regex.Matcher;
import java.util.regex.Pattern;

/** What can be seen in the program's text of the rules of LANGUAGE.md. */
final class RulesTest {
  private static final String[] FORBIDDEN = {
    "->", "::", "\\btry\\b", "\\bcatch\\b", "\\bfinally\\b", "\\bsynchronized\\b", "\\bassert\\b",
    "\\bpackage\\b", "\\bprotected\\b", "\\bequals\\b", "\\bhashCode\\b", "\\bwhile\\s*\\(true\\)",
    "for \\(;;", "\\w+Exact\\b", "\\bSystem\\.(?!arraycopy)", "\\bObject\\b", "\\bThread\\b"
  };

  public static void main(String[] args) throws IOException {
    String path = args.length > 0 ? args[0] : "src/main/java/PointerAnalyzer.java";
    String source = Files.readString(Path.of(path));
    String code = withoutComments(source);
    for (String pattern : FORBIDDEN) {
      Due.none("forbidden", all(pattern, code));
    }
    Due.equal("imports", all("import [\\w.*]+;", code),
        List.of("import java.util.NoSuchElementException;"));
    Due.none("exceptions that no rule lists", all("throw (?!new (IllegalState|IllegalArgument"
        + "|IndexOutOfBounds|Arithmetic|NoSuchElement)(Exception)?\\(\"[^\"]*\"\\);)[^;]*", code));
    Due.none("signs beyond 126", all("[^\\n\\x20-\\x7e]", source));
    Due.none("joined texts", all("\"\\s*\\+|\\+\\s*\"", code));
    Due.none("objects made outside of fields",
        all("(?m)^(?!  +private final [^=]*= new |  +throw ).*\\bnew [A-Za-z].*$", code));
    methods(code);
    Due.finish();
  }

  private static String withoutComments(String source) {
    return source.replaceAll("(?s)/\\*.*?\\*/", "").replaceAll("//[^\\n]*", "");
  }

  private static List<String> all(String pattern, String text) {
    List<String> found = new ArrayList<>();
    Matcher matcher = Pattern.compile(pattern).matcher(text);
    while (matcher.find()) {
      found.add(matcher.group());
    }
    return found;
  }

  /** Methods stay short and take few parameters; an index is looked at from both sides. */
  private static void methods(String code) {
    String head = "(?m)^ {2,4}(?:public |private |static )*[\\w\\[\\]]+ (\\w+)\\(([^)]*)\\)[^;{]*\\{$";
    Matcher matcher = Pattern.compile(head).matcher(code);
    int methods = 0;
    int indices = 0;
    while (matcher.find()) {
      methods++;
      String indent = matcher.group().startsWith("    ") ? "    }" : "  }";
      int end = code.indexOf("\n" + indent + "\n", matcher.end());
      String body = code.substring(matcher.end(), end);
      int lines = body.split("\n").length;
      Due.same("length of " + matcher.group(1), lines <= 60, true);
      Due.same("parameters of " + matcher.group(1), matcher.group(2).split(",").length <= 7, true);
      indices += indices(matcher.group(1), body);
    }
    Due.same("methods found", methods > 100, true);
    Due.same("indices found", indices >= 10, true);
  }

  /** An index either counts from 0 or is tested to be 0 at least; and it is tested to be in its row. */
  private static int indices(String method, String body) {
    int found = 0;
    Matcher matcher = Pattern.compile("(\\w+)\\[([^\\]]*)\\]").matcher(body);
    while (matcher.find()) {
      String index = matcher.group(2);
      String place = method + ", " + matcher.group();
      Due.same(place + ": the index is a name", index.matches("[a-z]\\w*"), true);
      Due.same(place + ": the index is looked at from below",
          body.contains(index + " >= 0") || body.contains("int " + index + " = 0;"), true);
      Due.same(place + ": the index is looked at from above",
          body.contains(index + " < " + matcher.group(1) + ".length"), true);
      found++;
    }
    return found;
  }
}
