import java.lang.reflect.Constructor;
import java.lang.reflect.Field;
import java.lang.reflect.Method;
import java.lang.reflect.Modifier;
import java.nio.file.Files;
import java.nio.file.Path;
import java.util.ArrayList;
import java.util.List;
import java.util.Set;
import java.util.TreeSet;
import java.util.regex.Matcher;
import java.util.regex.Pattern;

/** The face of the document, and those rules of ../shared/LANGUAGE.md that can be seen from the text or the class. */
public final class LanguageRules {
  static int wrong = 0;

  static void fault(String what) {
    wrong++;
    System.out.println("LanguageRules: " + what);
  }

  /** The text without comments, and without what stands in quotes. */
  static String bare(String text) {
    return text.replaceAll("(?s)/\\*.*?\\*/", "").replaceAll("//[^\n]*", "")
        .replaceAll("\"[^\"\n]*\"", "\"\"").replaceAll("'[^'\n]*'", "' '");
  }

  static void words(String code) {
    String[] never = {"throw", "throws", "try", "catch", "synchronized", "assert", "protected", "native", "volatile",
      "var", "yield", "instanceof", "System\\.(?!arraycopy)", "\\w+Exact", "->", "::", "hashCode", "equals", "toString",
      "Random", "Thread", "Object", "new \\w+\\s*\\([^()]*\\)\\s*\\{"};
    for (String n : never) {
      String edge = Character.isLetter(n.charAt(0)) ? "\\b" : "";
      Matcher m = Pattern.compile(edge + n).matcher(code);
      if (m.find()) fault("found " + m.group());
    }
    Matcher imports = Pattern.compile("import ([^;]*);").matcher(code);
    while (imports.find())
      if (!Set.of("java.util.Arrays", "java.util.ArrayList", "java.util.List").contains(imports.group(1)))
        fault("imports " + imports.group(1));
    Matcher statics = Pattern.compile("\\bstatic (?!final)[\\w<>\\[\\]]+ \\w+\\s*[=;]").matcher(code);
    if (statics.find()) fault("static, not final: " + statics.group());
  }

  /** Heads of methods, how many lines they have, and how many parameters. */
  static void methods(String code) {
    String[] lines = code.split("\n");
    Pattern head = Pattern.compile("^( +)(?:[\\w\\[\\]]+ )*\\w+ ?\\(([^)]*)\\) \\{$");
    for (int i = 0; i < lines.length; i++) {
      Matcher m = head.matcher(lines[i]);
      if (!m.matches() || lines[i].trim().matches("(if|for|while|switch|\\}).*")) continue;
      if (m.group(2).split(",").length > 7) fault("more than 7 parameters: " + lines[i].trim());
      int end = i;
      while (end < lines.length && !lines[end].equals(m.group(1) + "}")) end++;
      if (end - i > 60) fault("long: " + lines[i].trim());
    }
  }

  static void fields(Class<?> c) {
    int own = 0;
    for (Field f : c.getDeclaredFields()) if (!Modifier.isStatic(f.getModifiers())) own++;
    if (own > 20) fault(c.getSimpleName() + " has " + own + " fields");
  }

  static void face(String doc) {
    Set<String> due = new TreeSet<>();
    Matcher m = Pattern.compile("(?m)^    public (\\w+) (\\w+)\\(([^)]*)\\);$").matcher(doc);
    while (m.find()) {
      StringBuilder types = new StringBuilder();
      for (String p : m.group(3).split(", ")) if (!p.isEmpty()) types.append(p.split(" ")[0]).append(' ');
      due.add(m.group(1) + " " + m.group(2) + " " + types);
    }
    if (due.size() != 49) fault("the document's face has " + due.size() + " methods, not 49");
    Set<String> names = new TreeSet<>();
    Set<String> has = new TreeSet<>();
    List<String> hidden = new ArrayList<>();
    for (Method x : TheOtherRoom.class.getDeclaredMethods()) {
      if (x.isSynthetic()) continue;
      StringBuilder types = new StringBuilder();
      for (Class<?> p : x.getParameterTypes()) types.append(p.getSimpleName()).append(' ');
      if (Modifier.isPublic(x.getModifiers())) {
        has.add(x.getReturnType().getSimpleName() + " " + x.getName() + " " + types);
        names.add(x.getName());
      } else {
        hidden.add(x.getName());
        if (!Modifier.isPrivate(x.getModifiers())) fault("not private: " + x.getName());
      }
    }
    if (!due.equals(has)) fault("the face is " + has + ", due is " + due);
    for (Class<?> c : TheOtherRoom.class.getDeclaredClasses()) {
      if (!Modifier.isStatic(c.getModifiers())) fault("not static: " + c.getSimpleName());
      fields(c);
      for (Method x : c.getDeclaredMethods()) hidden.add(x.getName());
    }
    if (TheOtherRoom.class.getDeclaredClasses().length > 11) fault("too many classes");
    for (String h : hidden) if (names.contains(h)) fault("has the name of a public one: " + h);
    for (Field f : TheOtherRoom.class.getDeclaredFields())
      if (!Modifier.isPrivate(f.getModifiers()) && !f.getName().equals("NONE")) fault("not private: " + f.getName());
    for (Constructor<?> c : TheOtherRoom.class.getDeclaredConstructors())
      if (c.getParameterCount() != 0 || !Modifier.isPublic(c.getModifiers())) fault("another constructor");
    fields(TheOtherRoom.class);
  }

  public static void main(String[] args) throws Exception {
    String text = Files.readString(Path.of("src/main/java/TheOtherRoom.java"));
    for (char c : text.toCharArray()) if (c > 126 || c == '\t') fault("a sign " + (int) c);
    String code = bare(text);
    words(code);
    methods(code);
    face(Files.readString(Path.of("../shared/DOC.md")));
    System.out.println("LanguageRules: " + wrong + " faults");
    if (wrong != 0) System.exit(1);
  }
}
