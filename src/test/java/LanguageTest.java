import java.nio.file.Files;
import java.nio.file.Path;
import java.util.regex.Matcher;
import java.util.regex.Pattern;

/** The part of ../shared/LANGUAGE.md that can be seen in the source's words. */
public final class LanguageTest {
  private static final Check C = new Check("LanguageTest");
  private static final String[] NEVER = {
    "throw", "throws", "try", "catch", "finally", "synchronized", "assert", "import", "package",
    "volatile", "transient", "native", "strictfp", "instanceof", "System", "Thread", "Random",
    "equals", "hashCode", "toString", "double", "float", "var", "protected", "Object", "Object\\[\\]",
    "addExact", "multiplyExact", "negateExact"
  };

  public static void main(String[] args) throws Exception {
    String file = args.length > 0 ? args[0] : "src/main/java/AccusedChoose.java";
    String whole = Files.readString(Path.of(file));
    for (int i = 0; i < whole.length(); i++) {
      char c = whole.charAt(i);
      C.same("sign " + i, c == '\n' || c >= ' ' && c <= '~' ? 1 : 0, 1);
    }
    String code = whole.replaceAll("(?s)/\\*.*?\\*/", "").replaceAll("//[^\n]*", "")
        .replaceAll("'[^'\n]'", "0");
    for (String word : NEVER) {
      C.same("the word " + word, Pattern.compile("\\b" + word + "\\b").matcher(code).find() ? 1 : 0, 0);
    }
    C.same("a lambda", code.contains("->") ? 1 : 0, 0);
    C.same("a method reference", code.contains("::") ? 1 : 0, 0);
    C.same("an annotation", code.contains("@") ? 1 : 0, 0);
    C.same("a text joined or not", code.contains("\"") ? 1 : 0, 0);
    lookAtMethods(code);
    lookAtRoom(code);
    C.end();
  }

  /** All calls of a run share one room: objects are made with the object itself, by no call. */
  private static void lookAtRoom(String code) {
    int made = 0;
    for (String line : code.split("\n")) {
      if (line.matches(".*\\bnew\\b.*")) {
        made++;
        C.same("made by a field: " + line, line.matches(" +(private )?final .* = new .*;") ? 1 : 0, 1);
      }
      C.same("a copy: " + line, line.matches(".*\\b(clone|copyOf|copyOfRange)\\b.*") ? 1 : 0, 0);
    }
    C.same("objects were found", made > 30 ? 1 : 0, 1);
  }

  private static void lookAtMethods(String code) {
    String[] lines = code.split("\n");
    Pattern head = Pattern.compile("^( {2}| {4})(?! )[\\w\\[\\] ]+ \\w+\\((.*)\\) \\{$");
    int start = -1;
    String indent = "";
    int methods = 0;
    for (int i = 0; i < lines.length; i++) {
      Matcher m = head.matcher(lines[i]);
      if (start < 0 && m.matches()) {
        start = i;
        indent = m.group(1);
        methods++;
        C.same("parameters of " + lines[i], m.group(2).split(",").length <= 7 ? 1 : 0, 1);
      } else if (start >= 0 && lines[i].equals(indent + "}")) {
        C.same("lines of " + lines[start], i - start < 60 ? 1 : 0, 1);
        start = -1;
      }
    }
    C.same("methods were found", methods > 100 ? 1 : 0, 1);
  }
}
