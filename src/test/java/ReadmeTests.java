import java.lang.reflect.InvocationTargetException;
import java.net.URL;
import java.net.URLClassLoader;
import java.nio.file.Files;
import java.nio.file.Path;
import java.util.ArrayList;
import java.util.List;
import java.util.Map;
import java.util.TreeMap;
import javax.tools.ToolProvider;

/** Whether the calls that README.md shows, one behind the other, answer what it tells behind each. */
public final class ReadmeTests {
  private static final Path README = Path.of("README.md");
  private static final String THROWS = "throws ";

  public static void main(String[] args) throws Exception {
    List<String> codes = new ArrayList<>();
    List<String> wants = new ArrayList<>();
    readExample(codes, wants);
    Map<Integer, String> got = runExample(codes);
    int wrong = 0;
    for (int i = 1; i < codes.size(); i++) {
      if (!wants.get(i).equals(got.get(i))) {
        wrong++;
        System.out.println(codes.get(i) + " answered " + got.get(i) + ", README.md tells " + wants.get(i));
      }
    }
    boolean isKept = wrong == 0 && codes.size() > 1;
    System.out.println(isKept ? "README.md tells what its calls answer" : "README.md does not tell what its calls answer");
    if (!isKept) {
      System.exit(1);
    }
  }

  /** Parts the lines of the Java example into calls and, up to a colon, what is told of them. */
  private static void readExample(List<String> codes, List<String> wants) throws Exception {
    boolean isInside = false;
    for (String line : Files.readAllLines(README)) {
      if (line.startsWith("```")) {
        isInside = line.equals("```java");
      } else if (isInside) {
        int behind = line.indexOf("//");
        codes.add((behind < 0 ? line : line.substring(0, behind)).trim());
        String told = behind < 0 ? "" : line.substring(behind + 2);
        int colon = told.indexOf(':');
        wants.add((colon < 0 ? told : told.substring(0, colon)).trim());
      }
    }
  }

  /** What each call answers, all of them made in one program; a sign stands in quotes. */
  private static Map<Integer, String> runExample(List<String> codes) throws Exception {
    StringBuilder text = new StringBuilder("public final class Example {\n");
    text.append("  public static void run(java.util.Map<Integer, String> got) {\n");
    for (int i = 0; i < codes.size(); i++) {
      String code = codes.get(i);
      if (i == 0) {
        text.append(code).append('\n');
      } else {
        String call = code.substring(0, code.length() - 1);
        text.append("    try { got.put(").append(i).append(", told(").append(call).append(")); }");
        text.append(" catch (RuntimeException e) { got.put(").append(i).append(", \"").append(THROWS);
        text.append("\" + e.getClass().getSimpleName()); }\n");
      }
    }
    text.append("  }\n  private static String told(Object answer) {\n");
    text.append("    return answer instanceof Character ? \"'\" + answer + \"'\" : String.valueOf(answer);\n  }\n}\n");
    return compileAndRun(text.toString());
  }

  private static Map<Integer, String> compileAndRun(String text) throws Exception {
    Path room = Files.createTempDirectory("readme");
    Path source = room.resolve("Example.java");
    Path compiled = room.resolve("Example.class");
    Map<Integer, String> got = new TreeMap<>();
    try {
      Files.writeString(source, text);
      int failed = ToolProvider.getSystemJavaCompiler().run(null, null, null, "-cp", System.getProperty("java.class.path"),
          "-d", room.toString(), source.toString());
      if (failed == 0) {
        try (URLClassLoader loader = new URLClassLoader(new URL[] {room.toUri().toURL()})) {
          loader.loadClass("Example").getMethod("run", Map.class).invoke(null, got);
        } catch (InvocationTargetException e) {
          e.getCause().printStackTrace(System.out);
        }
      }
    } finally {
      Files.deleteIfExists(source);
      Files.deleteIfExists(compiled);
      Files.deleteIfExists(room);
    }
    return got;
  }
}
