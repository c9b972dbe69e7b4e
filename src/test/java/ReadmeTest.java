import java.io.IOException;
import java.lang.reflect.Method;
import java.nio.file.Files;
import java.nio.file.Path;
import java.util.ArrayList;
import java.util.List;
import java.util.TreeSet;
import java.util.Set;
import java.util.regex.Matcher;
import java.util.regex.Pattern;
import java.util.stream.Collectors;
import java.util.stream.Stream;

/** README.md against the class and the project's files: its answers, the tests it names, its feeding of texts. */
public final class ReadmeTest {
  private static int asked = 0;
  private static int wrong = 0;

  private static void due(boolean fine, String what) {
    asked++;
    if (!fine) {
      wrong++;
      System.out.println("README.md is not as due: " + what);
    }
  }

  /** The blocks of one kind, in order. */
  private static List<String> blocks(String page, String kind) {
    List<String> all = new ArrayList<>();
    Matcher m = Pattern.compile("(?s)```" + kind + "\n(.*?)```").matcher(page);
    while (m.find()) all.add(m.group(1));
    return all;
  }

  /** The same lines as README's tell. */
  static int tell(BearsTwo x, String text) {
    for (int i = 0; i < text.length(); i += 20) {
        int[] n = new int[5];
        for (int k = 0; k < 20; k++) {
            n[k / 4] = n[k / 4] << 8 | (i + k < text.length() ? text.charAt(i + k) : ' ');
        }
        x.feed(n[0], n[1], n[2], n[3], n[4]);
    }
    x.end(text.length());
    return x.river();
  }

  private static void tellIsThere(String page) throws IOException {
    String mine = Files.readString(Path.of("src/test/java/ReadmeTest.java"));
    List<String> java = blocks(page, "java");
    String theirs = java.get(0).replaceAll("\\s+", " ").trim();
    due(theirs.startsWith("static int tell("), "the first block is tell");
    due(mine.replaceAll("\\s+", " ").contains(theirs), "tell is as it stands in ReadmeTest");
  }

  private static long answer(BearsTwo x, String name, String arguments) throws ReflectiveOperationException {
    String[] parts = arguments.isEmpty() ? new String[0] : arguments.split(", ");
    for (Method method : BearsTwo.class.getMethods()) {
      if (!method.getName().equals(name) || method.getParameterCount() != parts.length) continue;
      Object[] values = new Object[parts.length];
      for (int i = 0; i < parts.length; i++) {
        Class<?> type = method.getParameterTypes()[i];
        if (type == boolean.class) values[i] = Boolean.valueOf(parts[i]);
        else if (type == long.class) values[i] = Long.valueOf(parts[i]);
        else values[i] = Integer.valueOf(parts[i]);
      }
      return ((Number) method.invoke(x, values)).longValue();
    }
    throw new NoSuchMethodException(name + "(" + arguments + ")");
  }

  /** Every line of the further blocks is a call with its answer behind it. */
  private static void answers(String page) throws ReflectiveOperationException {
    BearsTwo x = new BearsTwo();
    String river = blocks(page, "text").get(0);
    List<String> java = blocks(page, "java");
    int calls = 0;
    for (String line : String.join("", java.subList(1, java.size())).split("\n")) {
      if (line.equals("BearsTwo x = new BearsTwo();")) continue;
      Matcher m = Pattern.compile("(?:x\\.(\\w+)\\(([^)]*)\\)|tell\\(x, text\\)); *// (-?\\d+)(?:: .*)?").matcher(line);
      due(m.matches(), "a call and its answer: " + line);
      if (!m.matches()) continue;
      long got = m.group(1) == null ? tell(x, river) : answer(x, m.group(1), m.group(2));
      due(got == Long.parseLong(m.group(3)), line + " (answered " + got + ")");
      calls++;
    }
    due(calls >= 30, calls + " calls");
  }

  /** Each test is named, and what is named is there. */
  private static void files(String page) throws IOException {
    Set<String> there;
    try (Stream<Path> all = Files.list(Path.of("src/test/java"))) {
      there = all.map(p -> p.getFileName().toString().replace(".java", "")).collect(Collectors.toCollection(TreeSet::new));
    }
    String tests = page.substring(page.indexOf("## How to run its tests"));
    Set<String> named = new TreeSet<>();
    Matcher m = Pattern.compile("`([A-Z]\\w*)`").matcher(tests);
    while (m.find()) named.add(m.group(1));
    due(named.equals(there), "its tests: " + named + " and " + there);
    due(tests.contains("    .ci/run\n") && Files.isExecutable(Path.of(".ci/run")), ".ci/run");
    String script = Files.readString(Path.of(".ci/run"));
    due(script.contains("../shared/tests") && script.contains("src/test/java/*Test.java"), "what .ci/run runs");
  }

  public static void main(String[] args) throws Exception {
    String page = Files.readString(Path.of("README.md"));
    tellIsThere(page);
    answers(page);
    files(page);
    System.out.println(wrong == 0 ? asked + " things of README.md are as due" : wrong + " things of README.md are not as due");
    if (wrong != 0) System.exit(1);
  }
}
