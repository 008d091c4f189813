import java.io.IOException;
import java.nio.file.Files;
import java.nio.file.Path;
import java.util.ArrayList;
import java.util.List;
import java.util.Map;
import java.util.TreeMap;
import java.util.TreeSet;
import java.util.regex.Matcher;
import java.util.regex.Pattern;

/**
 * The sentences of the document. A test names the one that it looks at by the promise's number and
 * by words of the sentence, which must stand there; at the end each sentence must have been named.
 */
final class Sentence {
  /** The sections before the promises. */
  static final int DESCRIPTION = 0;
  private static final int PROMISES = 38;
  private static final String[] NOTHING_TO_TEST = {
    "A points-to analyzer for small programs with functions, pointers and heap objects",
    "The class is not thread-safe."
  };

  private static final Map<Integer, List<String>> SENTENCES = new TreeMap<>();
  private static final Map<Integer, TreeSet<String>> NAMED = new TreeMap<>();
  private static int lookedBefore = 0;
  private static String current = "";

  private Sentence() {
  }

  static void read(Path document) throws IOException {
    for (String section : Files.readString(document).split("(?m)^## ")) {
      Matcher promise = Pattern.compile("^Promise (\\d+):").matcher(section);
      String rest = section.substring(section.indexOf('\n') + 1);
      if (promise.find()) {
        add(Integer.parseInt(promise.group(1)), rest);
      } else if (section.startsWith("What it is") || section.startsWith("Description")) {
        add(DESCRIPTION, rest.split("(?m)^Examples: ")[0]);
      }
    }
    Due.same("promises in the document", SENTENCES.size(), PROMISES + 1);
  }

  private static void add(int promise, String section) {
    List<String> sentences = SENTENCES.computeIfAbsent(promise, number -> new ArrayList<>());
    for (String part : section.split("\\n\\s*\\n|\\n(?=- )")) {
      boolean isSignature = part.strip().startsWith("`");
      for (String sentence : part.strip().split("(?<=\\.)\\s+")) {
        if (!isSignature && sentence.strip().split("\\s+").length > 2) {
          sentences.add(plain(sentence.replaceFirst("^- ", "")));
        }
      }
    }
  }

  private static String plain(String words) {
    return words.replace("`", "").replaceAll("\\s+", " ").strip();
  }

  /** What is looked at from now on belongs to the sentence with these words, or to a part of it. */
  static void of(int promise, String words) {
    finishCurrent();
    current = "promise " + promise + ", '" + words + "': ";
    Due.at("");
    Due.same(current + "stands in the document", stands(promise, words), true);
    Due.at(current);
    lookedBefore = Due.looked();
    NAMED.computeIfAbsent(promise, number -> new TreeSet<>()).add(words);
  }

  private static boolean stands(int promise, String words) {
    for (String sentence : SENTENCES.getOrDefault(promise, List.of())) {
      if (sentence.contains(words)) {
        return true;
      }
    }
    return false;
  }

  private static void finishCurrent() {
    Due.at("");
    if (!current.isEmpty()) {
      Due.same(current + "was looked at", Due.looked() > lookedBefore, true);
    }
  }

  static void finish() {
    finishCurrent();
    for (int promise = 0; promise <= PROMISES; promise++) {
      List<String> missing = new ArrayList<>();
      for (String sentence : SENTENCES.getOrDefault(promise, List.of())) {
        if (!isNamed(promise, sentence)) {
          missing.add(sentence);
        }
      }
      Due.none("sentences of promise " + promise + " without a test", missing);
      int named = NAMED.getOrDefault(promise, new TreeSet<>()).size();
      System.out.println("  " + (promise == 0 ? "the description" : "promise " + promise) + ": "
          + SENTENCES.getOrDefault(promise, List.of()).size() + " sentences, " + named + " tests");
    }
  }

  private static boolean isNamed(int promise, String sentence) {
    for (String words : NOTHING_TO_TEST) {
      if (sentence.startsWith(words)) {
        return true;
      }
    }
    for (String words : NAMED.getOrDefault(promise, new TreeSet<>())) {
      if (sentence.contains(words)) {
        return true;
      }
    }
    return false;
  }
}
