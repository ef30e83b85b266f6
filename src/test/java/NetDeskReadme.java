import java.lang.reflect.Method;
import java.nio.file.Files;
import java.nio.file.Path;
import java.util.regex.Matcher;
import java.util.regex.Pattern;

// README.md's example answers what its comments say: each line of it is a call, and a number behind // is the answer due.
public final class NetDeskReadme {
  private static final Pattern CALL = Pattern.compile("desk\\.(\\w+)\\(([^)]*)\\);\\s*(?://\\s*(-?\\d+):.*)?.*");
  private static final Pattern JAVA_BLOCK = Pattern.compile("(?s)```java\\n(.*?)```");
  private static final int ANSWERS_TOLD = 6;

  public static void main(String[] args) throws Exception {
    Matcher block = JAVA_BLOCK.matcher(Files.readString(Path.of("README.md")));
    if (!block.find()) fail("README.md has no example");
    NetDesk desk = new NetDesk();
    int told = 0;
    int wrong = 0;
    for (String line : block.group(1).split("\n")) {
      Matcher call = CALL.matcher(line.trim());
      if (!call.matches()) {
        if (!line.startsWith("NetDesk desk = new NetDesk();")) fail("no call: " + line);
        continue;
      }
      int got = answer(desk, call.group(1), call.group(2));
      if (call.group(3) == null) continue;
      told++;
      if (got != Integer.parseInt(call.group(3))) {
        wrong++;
        System.out.println(line.trim() + " answered " + got);
      }
    }
    if (told < ANSWERS_TOLD) fail("the example tells only " + told + " answers");
    System.out.println(told + " answers of the example, " + wrong + " not as README.md says");
    if (wrong != 0) System.exit(1);
  }

  private static int answer(NetDesk desk, String name, String arguments) throws Exception {
    String[] words = arguments.isEmpty() ? new String[0] : arguments.split(", *");
    Class<?>[] types = new Class<?>[words.length];
    Object[] values = new Object[words.length];
    for (int i = 0; i < words.length; i++) {
      types[i] = int.class;
      values[i] = Long.decode(words[i]).intValue();
    }
    Method method = NetDesk.class.getMethod(name, types);
    return (Integer) method.invoke(desk, values);
  }

  private static void fail(String why) {
    System.out.println(why);
    System.exit(1);
  }
}
