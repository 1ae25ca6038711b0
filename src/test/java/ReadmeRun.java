import java.lang.reflect.Method;
import java.nio.file.Files;
import java.nio.file.Path;
import java.util.regex.Matcher;
import java.util.regex.Pattern;

/** README.md's run of calls is done, and each call must answer what stands behind it there. */
public final class ReadmeRun {
  private static final Pattern BLOCK = Pattern.compile("(?s)```java\n(.*?)```");
  private static final Pattern FEED = Pattern.compile("for \\(char c : \"(.*)\"\\.toCharArray\\(\\)\\) x\\.feed\\(c, 1\\);");
  private static final Pattern CALL = Pattern.compile("x\\.(\\w+)\\((.*)\\); +// (-?\\d+)(: .*)?");
  private static TheOtherRoom x = null;
  private static int wrong = 0, answers = 0;

  private static void fault(String line, String what) {
    wrong++;
    System.out.println("README.md: " + line + ": " + what);
  }

  private static Object argument(String told, Class<?> type) {
    if (type == int.class) return Integer.valueOf(told);
    return type == long.class ? (Object) Long.valueOf(told) : Boolean.valueOf(told);
  }

  private static long answer(String name, String told) throws Exception {
    String[] parts = told.isEmpty() ? new String[0] : told.split(", ");
    for (Method m : TheOtherRoom.class.getMethods()) {
      if (!m.getName().equals(name) || m.getParameterCount() != parts.length) continue;
      Object[] all = new Object[parts.length];
      for (int i = 0; i < parts.length; i++) all[i] = argument(parts[i], m.getParameterTypes()[i]);
      return ((Number) m.invoke(x, all)).longValue();
    }
    throw new IllegalArgumentException("no such call");
  }

  private static void line(String line) throws Exception {
    Matcher feed = FEED.matcher(line), call = CALL.matcher(line);
    if (line.equals("TheOtherRoom x = new TheOtherRoom();")) {
      x = new TheOtherRoom();
    } else if (feed.matches()) {
      for (char c : feed.group(1).toCharArray()) x.feed(c, 1);
    } else if (call.matches()) {
      answers++;
      long got = answer(call.group(1), call.group(2));
      if (got != Long.parseLong(call.group(3))) fault(line, "answered " + got);
    } else if (!line.isEmpty() && !line.startsWith("//")) {
      fault(line, "no call with its answer");
    }
  }

  public static void main(String[] args) throws Exception {
    Matcher block = BLOCK.matcher(Files.readString(Path.of("README.md")));
    while (block.find())
      for (String line : block.group(1).split("\n")) line(line);
    if (answers == 0) fault("the whole", "no call at all");
    System.out.println("ReadmeRun: " + answers + " answers, " + wrong + " not as README.md has them");
    if (wrong != 0) System.exit(1);
  }
}
