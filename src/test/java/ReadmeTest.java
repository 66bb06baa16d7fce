import java.lang.reflect.Method;
import java.lang.reflect.Modifier;
import java.nio.file.Files;
import java.nio.file.Path;
import java.util.regex.Matcher;
import java.util.regex.Pattern;

/** README.md: each call of its examples, from the first on, answers as the page says; each call of the face has its row. */
public final class ReadmeTest {
  private static final Pattern CALL = Pattern.compile("    x\\.(\\w+)\\(([-\\d, ]*)\\); *// (-?\\d+)(:.*)?");
  private static final Pattern TELL = Pattern.compile("    tell\\(x, \"([^\"]*)\"\\); *// (-?\\d+)(:.*)?");

  public static void main(String[] args) throws Exception {
    String page = Files.readString(Path.of("README.md"));
    examples(page);
    face(page);
    Check.due("it says for how many calls an object is good", page.contains("good for 512 calls") ? 1 : 0, 1);
    Check.due("it says how to run the tests", page.contains("    .ci/run\n") ? 1 : 0, 1);
    for (String test : new java.io.File("src/test/java").list()) {
      String name = test.replace(".java", "");
      Check.due("it tells of " + name, page.contains("`" + name + "`") ? 1 : 0, 1);
    }
    Check.end();
  }

  private static void examples(String page) throws Exception {
    StandRank x = new StandRank();
    int seen = 0;
    // a text that goes on in the next line
    for (String line : page.replaceAll("\"\n *\\+ \"", "").split("\n")) {
      Matcher call = CALL.matcher(line);
      Matcher tell = TELL.matcher(line);
      if (tell.matches()) Check.due(line, tell(x, tell.group(1)), Long.parseLong(tell.group(2)));
      else if (call.matches()) Check.due(line, call(x, call.group(1), call.group(2).split(", ")), Long.parseLong(call.group(3)));
      else if (line.startsWith("    x.") || line.startsWith("    tell(")) Check.due("an answer: " + line, 0, 1);
      else continue;
      seen++;
    }
    Check.due("there are examples", seen > 20 ? 1 : 0, 1);
  }

  private static long call(StandRank x, String name, String[] told) throws Exception {
    for (Method m : StandRank.class.getDeclaredMethods()) {
      if (!m.getName().equals(name)) continue;
      Class<?>[] types = m.getParameterTypes();
      Object[] args = new Object[types.length];
      for (int k = 0; k < args.length; k++) args[k] = types[k] == long.class ? (Object) Long.valueOf(told[k]) : (Object) Integer.valueOf(told[k]);
      return ((Number) m.invoke(x, args)).longValue();
    }
    throw new IllegalArgumentException(name);
  }

  /** As the page has it. */
  static int tell(StandRank x, String text) {
    byte[] bytes = text.getBytes(java.nio.charset.StandardCharsets.ISO_8859_1);
    java.nio.ByteBuffer tape = java.nio.ByteBuffer.wrap(java.util.Arrays.copyOf(bytes, (bytes.length + 19) / 20 * 20));
    while (tape.hasRemaining()) {
      x.feed(tape.getInt(), tape.getInt(), tape.getInt(), tape.getInt(), tape.getInt());
    }
    return x.court(bytes.length);
  }

  private static void face(String page) {
    for (Method m : StandRank.class.getDeclaredMethods()) {
      if (!Modifier.isPublic(m.getModifiers())) continue;
      Matcher row = Pattern.compile("\\| `" + m.getName() + "\\(([^)]*)\\)` \\|").matcher(page);
      boolean found = row.find();
      Check.due("a row of " + m.getName(), found ? 1 : 0, 1);
      if (found) Check.due("arguments of " + m.getName(), row.group(1).isEmpty() ? 0 : row.group(1).split(", ").length, m.getParameterCount());
    }
  }
}
