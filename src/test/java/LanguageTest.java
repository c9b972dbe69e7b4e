import java.lang.reflect.Field;
import java.lang.reflect.Method;
import java.lang.reflect.Modifier;
import java.nio.file.Files;
import java.nio.file.Path;
import java.util.HashSet;
import java.util.Set;
import java.util.TreeSet;
import java.util.regex.Matcher;
import java.util.regex.Pattern;

/** What can be seen of the rules of LANGUAGE.md from the class and from its text, and the document's face. */
public final class LanguageTest {
  private static int wrong = 0;

  private static void due(boolean fine, String what) {
    if (!fine) {
      wrong++;
      System.out.println("not as due: " + what);
    }
  }

  private static void face(String document) {
    String face = document.substring(document.indexOf("public final class BearsTwo"), document.indexOf("## Terms"));
    Set<String> told = new TreeSet<>();
    Matcher m = Pattern.compile("public (int|long) (\\w+)\\(([^)]*)\\);").matcher(face);
    while (m.find()) {
      StringBuilder types = new StringBuilder();
      if (!m.group(3).isEmpty()) for (String p : m.group(3).split(", ")) types.append(p.split(" ")[0]).append(' ');
      told.add(m.group(1) + " " + m.group(2) + " " + types);
    }
    Set<String> there = new TreeSet<>();
    Set<String> names = new HashSet<>();
    for (Method method : BearsTwo.class.getDeclaredMethods()) {
      if (Modifier.isPublic(method.getModifiers())) {
        StringBuilder types = new StringBuilder();
        for (Class<?> type : method.getParameterTypes()) types.append(type).append(' ');
        there.add(method.getReturnType() + " " + method.getName() + " " + types);
        names.add(method.getName());
      }
    }
    due(told.size() == 51, "51 methods in the document: " + told.size());
    due(told.equals(there), "the face is the document's: " + told + " and " + there);
    due(Modifier.isFinal(BearsTwo.class.getModifiers()) && Modifier.isPublic(BearsTwo.class.getModifiers()), "public and final");
    members(BearsTwo.class, names);
  }

  private static void members(Class<?> type, Set<String> names) {
    for (Method method : type.getDeclaredMethods()) {
      boolean isFace = Modifier.isPublic(method.getModifiers()) && type == BearsTwo.class;
      due(isFace || type != BearsTwo.class || Modifier.isPrivate(method.getModifiers()), "not private: " + method);
      due(isFace || !names.contains(method.getName()), "a name of the face: " + method);
      due(method.getParameterCount() <= 7, "more than seven parameters: " + method);
    }
    int fields = 0;
    for (Field field : type.getDeclaredFields()) {
      boolean isStatic = Modifier.isStatic(field.getModifiers());
      due(!isStatic || Modifier.isFinal(field.getModifiers()), "static and not final: " + field);
      due(type != BearsTwo.class || field.getName().equals("NONE") || Modifier.isPrivate(field.getModifiers()), "not private: " + field);
      fields += isStatic ? 0 : 1;
    }
    due(fields <= 20, fields + " fields: " + type);
    for (Class<?> inner : type.getDeclaredClasses()) {
      due(Modifier.isStatic(inner.getModifiers()), "not static: " + inner);
      members(inner, names);
    }
  }

  private static void text(String source) {
    String code = source.replaceAll("(?s)/\\*.*?\\*/", " ").replaceAll("//[^\n]*", " ");
    String bare = code.replaceAll("\"[^\"\n]*\"", "TEXT");
    String[] never = {"\\bthrow\\b", "\\bthrows\\b", "\\btry\\b", "\\bcatch\\b", "\\bsynchronized\\b", "\\bassert\\b", "->", "::", "\\bnative\\b",
        "\\bvolatile\\b", "\\bdouble\\b", "\\bfloat\\b", "\\bThread\\b", "\\bSystem\\.(?!arraycopy\\b)", "Exact\\b", "TEXT *\\+", "\\+ *TEXT",
        "static *\\{", "\\bRandom\\b", "\\bpackage\\b", "\\binterface\\b"};
    for (String word : never) due(!Pattern.compile(word).matcher(bare).find(), "in the text: " + word);
    Matcher imports = Pattern.compile("(?m)^import ([^;]+);").matcher(bare);
    while (imports.find()) due(imports.group(1).equals("java.util.Arrays"), "import of " + imports.group(1));
    Matcher classes = Pattern.compile("\\bclass \\w+").matcher(bare);
    int count = 0;
    while (classes.find()) count++;
    due(count <= 12, count + " classes");
    for (char c : source.toCharArray()) due(c == '\n' || c >= 32 && c < 127, "a sign that is none of 1 to 127: " + (int) c);
    library(bare);
    methods(code);
  }

  /** Only what rule 4 lists is called of the library. */
  private static void library(String bare) {
    Set<String> allowed = Set.of("Math.min", "Math.max", "Integer.bitCount", "Integer.numberOfTrailingZeros", "System.arraycopy", "Arrays.fill");
    Matcher calls = Pattern.compile("\\b(Math|Integer|Long|System|Arrays|String|Character|Short|Byte|Boolean|Object)\\.(\\w+)").matcher(bare);
    while (calls.find()) due(allowed.contains(calls.group()), "of the library: " + calls.group());
    due(!Pattern.compile("\\.(equals|hashCode|toString|getClass|wait|notify)\\(").matcher(bare).find(), "a method of Object");
  }

  /** Methods of some sixty lines at the most, and nothing made in one that is no constructor. */
  private static void methods(String code) {
    String[] lines = code.split("\n");
    String name = null;
    String indent = "";
    int begun = 0;
    Pattern head = Pattern.compile("^((?:    )+)(?:(?:public|private|static|final) )*(?:[\\w\\[\\]]+ )?(\\w+)\\([^;]*\\) \\{$");
    for (int i = 0; i < lines.length; i++) {
      Matcher m = head.matcher(lines[i]);
      if (name == null && m.find() && !m.group(2).matches("if|for|while|switch")) {
        name = m.group(2);
        indent = m.group(1);
        begun = i;
      } else if (name != null && lines[i].equals(indent + "}")) {
        due(i - begun < 60, "a method of " + (i - begun) + " lines: " + name);
        name = null;
      } else if (name != null && lines[i].matches(".*\\bnew .*")) {
        due(Character.isUpperCase(name.charAt(0)), "something is made in " + name);
      }
    }
  }

  public static void main(String[] args) throws Exception {
    face(Files.readString(Path.of("../shared/DOC.md")));
    text(Files.readString(Path.of("src/main/java/BearsTwo.java")));
    System.out.println(wrong == 0 ? "the class keeps to the rules that can be seen" : wrong + " things are not as due");
    if (wrong != 0) System.exit(1);
  }
}
