import java.lang.reflect.Constructor;
import java.lang.reflect.Field;
import java.lang.reflect.Method;
import java.lang.reflect.Modifier;
import java.nio.file.Files;
import java.nio.file.Path;
import java.util.ArrayList;
import java.util.Arrays;
import java.util.List;
import java.util.TreeSet;
import java.util.regex.Matcher;
import java.util.regex.Pattern;

// The face is the document's, and the source keeps to what its words can tell of LANGUAGE.md.
public final class NetDeskFace {
  private static int wrong = 0;

  public static void main(String[] args) throws Exception {
    face();
    nested();
    source(Files.readString(Path.of("src/main/java/NetDesk.java")));
    System.out.println(wrong + " rules broken");
    if (wrong != 0) System.exit(1);
  }

  private static void due(String what, Object got, Object want) {
    if (!want.equals(got)) {
      wrong++;
      System.out.println(what + ": " + got + ", due is " + want);
    }
  }

  private static String parameters(Class<?>[] types) {
    List<String> names = new ArrayList<>();
    for (Class<?> t : types) names.add(t.getSimpleName());
    return "(" + String.join(",", names) + ")";
  }

  private static void face() {
    TreeSet<String> open = new TreeSet<>();
    for (Method m : NetDesk.class.getDeclaredMethods())
      if (!Modifier.isPrivate(m.getModifiers()))
        open.add(Modifier.toString(m.getModifiers()) + " " + m.getReturnType() + " " + m.getName() + parameters(m.getParameterTypes()));
    for (Constructor<?> c : NetDesk.class.getDeclaredConstructors())
      if (!Modifier.isPrivate(c.getModifiers())) open.add(Modifier.toString(c.getModifiers()) + " new" + parameters(c.getParameterTypes()));
    for (Field f : NetDesk.class.getDeclaredFields())
      if (!Modifier.isPrivate(f.getModifiers())) open.add(Modifier.toString(f.getModifiers()) + " " + f.getType() + " " + f.getName());
    due("the face", open, new TreeSet<>(Arrays.asList(
      "public static final int NONE", "public new()", "public int feed(int,int,int,int,int)", "public int end(int)", "public int out(int)",
      "public int resolve()", "public int base()", "public int server()", "public int fetch()", "public int body(int)",
      "public int tick(int)", "public int forget()", "public int write(int)", "public int count(int)")));
    due("the class", Modifier.toString(NetDesk.class.getModifiers()), "public final");
  }

  private static void nested() {
    List<String> faceNames = List.of("feed", "end", "out", "resolve", "base", "server", "fetch", "body", "tick", "forget", "write", "count");
    List<Class<?>> classes = new ArrayList<>(Arrays.asList(NetDesk.class.getDeclaredClasses()));
    due("at most twelve classes", classes.size() + 1 <= 12, true);
    for (Class<?> c : classes) {
      due(c + " is static", Modifier.isStatic(c.getModifiers()), true);
      for (Method m : c.getDeclaredMethods()) {
        due(m + " has a name of the face", faceNames.contains(m.getName()), false);
        due(m + " has at most seven parameters", m.getParameterCount() <= 7, true);
      }
    }
    classes.add(NetDesk.class);
    for (Class<?> c : classes) {
      int own = 0;
      for (Field f : c.getDeclaredFields()) {
        if (!Modifier.isStatic(f.getModifiers())) own++;
        else due(f + " is final", Modifier.isFinal(f.getModifiers()), true);
      }
      due("at most twenty fields in " + c, own <= 20, true);
    }
  }

  private static void source(String source) {
    String code = source.replaceAll("(?s)/\\*.*?\\*/", " ").replaceAll("//[^\"\\n]*\\n", "\n").replaceAll("\"(?:[^\"\\\\]|\\\\.)*\"", "\"\"");
    for (String word : new String[] {"throw", "throws", "try", "catch", "synchronized", "assert", "package", "->", "::", "System.in",
        "System.out", "Exact", "Object", "double", "float", "hashCode", "protected", "volatile", "native"}) {
      boolean isWord = Character.isLetter(word.charAt(0));
      Matcher m = Pattern.compile(isWord ? "\\b" + Pattern.quote(word) + "\\b" : Pattern.quote(word)).matcher(code);
      due("'" + word + "' is there", m.find(), false);
    }
    due("texts joined by +", Pattern.compile("\"\\s*\\+|\\+\\s*\"").matcher(code).find(), false);
    Matcher imports = Pattern.compile("import ([^;]*);").matcher(code);
    while (imports.find()) due("import", List.of("java.util.ArrayList", "java.util.List", "java.util.Arrays").contains(imports.group(1)), true);
    int lines = 0;
    for (String line : source.split("\n")) {
      lines++;
      if (line.matches("    (    )?\\S.*\\{") || line.matches("    (    )?}")) lines = 0;
      if (lines == 61) due("a method of more than sixty lines at", line, "shorter");
    }
  }
}
