import java.io.IOException;
import java.net.URL;
import java.net.URLClassLoader;
import java.nio.file.Files;
import java.nio.file.Path;
import java.util.ArrayList;
import java.util.Comparator;
import java.util.List;
import java.util.Set;
import java.util.TreeSet;
import java.util.regex.Matcher;
import java.util.regex.Pattern;
import java.util.stream.Stream;

/** What README.md says: its programs answer as told, all calls and all tests stand in it. */
public final class ReadmeTest {
  private static final Check C = new Check("ReadmeTest");
  private static final Pattern ASKED = Pattern.compile("(x\\.\\w+\\([^;]*\\)); +// (-?\\d+)(: .*)?");

  public static void main(String[] args) throws Exception {
    String page = Files.readString(Path.of("README.md"));
    lookAtCalls(page);
    lookAtTests(page);
    Path out = Files.createTempDirectory("readme");
    try {
      runPrograms(page, out);
    } finally {
      sweep(out);
    }
    C.end();
  }

  /** Each call of the document's face stands in a table, with the face's parameters. */
  private static void lookAtCalls(String page) throws IOException {
    Set<String> due = new TreeSet<>();
    Matcher face = Pattern.compile("    public (?:int|long) (\\w+\\(.*\\));")
        .matcher(Files.readString(Path.of("../shared/DOC.md")));
    while (face.find()) {
      due.add(face.group(1).replaceAll("\\b(?:int|long) ", ""));
    }
    Set<String> got = new TreeSet<>();
    for (String line : page.split("\n")) {
      if (line.startsWith("| `") && line.contains(" | ")) {
        Matcher call = Pattern.compile("`(\\w+\\([^`]*\\))`").matcher(line.split(" \\| ")[0]);
        while (call.find()) {
          C.same(call.group(1) + " stands twice", got.add(call.group(1)) ? 0 : 1, 0);
        }
      }
    }
    C.same("methods in the document", due.size(), 50);
    C.sameText("the tables of calls", got.toString(), due.toString());
  }

  /** Each test is named, and no other. */
  private static void lookAtTests(String page) throws IOException {
    Set<String> due = new TreeSet<>();
    try (Stream<Path> files = Files.list(Path.of("src/test/java"))) {
      files.map(file -> file.getFileName().toString()).filter(name -> name.endsWith("Test.java"))
          .forEach(name -> due.add(name.replace(".java", "")));
    }
    Set<String> got = new TreeSet<>();
    Matcher named = Pattern.compile("`(\\w+Test)`").matcher(page);
    while (named.find()) {
      got.add(named.group(1));
    }
    C.sameText("the tests", got.toString(), due.toString());
    C.same(".ci/run is named", page.contains("\n.ci/run\n") ? 1 : 0, 1);
    C.same(".ci/run can be run", Files.isExecutable(Path.of(".ci/run")) ? 1 : 0, 1);
  }

  /** Each program of the page is compiled; its answers come back as lines "got due call". */
  private static void runPrograms(String page, Path out) throws Exception {
    Matcher block = Pattern.compile("(?s)```java\n(.*?)```").matcher(page);
    int programs = 0;
    while (block.find()) {
      programs++;
      String name = "Readme" + programs;
      Files.writeString(out.resolve(name + ".java"), program(name, block.group(1)));
    }
    C.same("programs are found", programs > 0 ? 1 : 0, 1);
    compile(out, programs);
    try (URLClassLoader loader = new URLClassLoader(new URL[] {out.toUri().toURL()})) {
      for (int i = 1; i <= programs; i++) {
        List<Object[]> answers = new ArrayList<>();
        loader.loadClass("Readme" + i).getMethod("run", List.class).invoke(null, answers);
        C.same("program " + i + " tells answers", answers.isEmpty() ? 0 : 1, 1);
        for (Object[] one : answers) {
          C.same("program " + i + ": " + one[2], (Long) one[0], (Long) one[1]);
        }
      }
    }
  }

  private static String program(String name, String block) {
    StringBuilder s = new StringBuilder("public final class " + name + " {\n");
    s.append("  public static void run(java.util.List<Object[]> answers) {\n");
    for (String line : block.split("\n")) {
      Matcher asked = ASKED.matcher(line);
      boolean told = asked.matches();
      C.same("an answer is told: " + line, told == line.contains("//") ? 1 : 0, 1);
      s.append(told ? "    answers.add(new Object[] {(long) " + asked.group(1) + ", "
          + asked.group(2) + "L, \"" + asked.group(1) + "\"});" : "    " + line).append('\n');
    }
    return s.append("  }\n}\n").toString();
  }

  private static void compile(Path out, int programs) throws Exception {
    List<String> command = new ArrayList<>(List.of("javac", "-nowarn", "-cp",
        System.getProperty("java.class.path"), "-d", out.toString()));
    for (int i = 1; i <= programs; i++) {
      command.add(out.resolve("Readme" + i + ".java").toString());
    }
    C.same("javac", new ProcessBuilder(command).inheritIO().start().waitFor(), 0);
  }

  private static void sweep(Path out) throws IOException {
    try (Stream<Path> all = Files.walk(out)) {
      for (Path one : all.sorted(Comparator.reverseOrder()).toList()) {
        Files.delete(one);
      }
    }
  }
}
