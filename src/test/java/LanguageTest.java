import java.lang.reflect.Constructor;
import java.lang.reflect.Field;
import java.lang.reflect.Method;
import java.lang.reflect.Modifier;
import java.nio.file.Files;
import java.nio.file.Path;
import java.util.Set;
import java.util.TreeSet;
import java.util.regex.Matcher;
import java.util.regex.Pattern;

/** The rules of ../shared/LANGUAGE.md that a test can see, and the document's face. */
public final class LanguageTest {
  private static final String FACE = "alone(int) aloneBy(int,int) bestSit(int,int) bound(int,int,int,int) breakfast(int) "
    + "chairs(int,int,int) chance(int,int,int)long chancellor(int) change(int,int) count(int) court(int) evening() fault(int) "
    + "feed(int,int,int,int,int) image(int) judge(int,int) leans(int,int) lists(int,int) next(int,int,int) numbers(int,int,int) "
    + "office(int) perform(int) person(int,int) place(int,int) play(int) rest(int,int,int,int,int) restore(int) "
    + "rests(int,int,int,int) rooms(int,int,int) row(int,int) rowSpot(int,int,int) season(int,int) sit(int) sits(int) "
    + "sitsBy(int,int) spot(int) stands(int,int) tires(int,int) undo(int) ways(int,int) wine(int,int) worth(int,int) "
    + "write(int,int,long)long";
  private static int wrong = 0;

  public static void main(String[] args) throws Exception {
    face();
    nested();
    String text = Files.readString(Path.of("src/main/java/StandRank.java"));
    source(text);
    headings(text);
    System.out.println(wrong == 0 ? "the rules that can be seen are kept" : wrong + " rules are not kept");
    if (wrong != 0) System.exit(1);
  }

  private static void must(boolean kept, String rule) {
    if (!kept) {
      wrong++;
      System.out.println(rule);
    }
  }

  private static void face() {
    Set<String> want = new TreeSet<>(Set.of(FACE.split(" ")));
    Set<String> have = new TreeSet<>();
    for (Method m : StandRank.class.getDeclaredMethods()) {
      int mod = m.getModifiers();
      must(Modifier.isPublic(mod) || Modifier.isPrivate(mod) || m.isSynthetic(), "1: visible " + m);
      if (Modifier.isPublic(mod)) have.add(signature(m));
    }
    must(have.equals(want), "1: the face is " + have + ", due is " + want);
    Constructor<?>[] makers = StandRank.class.getDeclaredConstructors();
    must(makers.length == 1 && Modifier.isPublic(makers[0].getModifiers()) && makers[0].getParameterCount() == 0, "1: constructor");
    for (Field f : StandRank.class.getDeclaredFields()) {
      must(Modifier.isPrivate(f.getModifiers()) || f.getName().equals("NONE"), "1: visible " + f);
    }
    must(Modifier.isFinal(StandRank.class.getModifiers()) && Modifier.isPublic(StandRank.class.getModifiers()), "1: public and final");
    for (Class<?> c : StandRank.class.getDeclaredClasses()) {
      for (Method m : c.getDeclaredMethods()) must(!(" " + FACE).contains(" " + m.getName() + "("), "1: " + m + " bears a public name");
    }
  }

  private static String signature(Method m) {
    StringBuilder s = new StringBuilder(m.getName()).append('(');
    for (Class<?> t : m.getParameterTypes()) s.append(s.charAt(s.length() - 1) == '(' ? "" : ",").append(t.getName());
    return s.append(')').append(m.getReturnType() == int.class ? "" : m.getReturnType().getName()).toString();
  }

  private static void nested() {
    Class<?>[] inside = StandRank.class.getDeclaredClasses();
    must(inside.length + 1 <= 12, "11: " + (inside.length + 1) + " classes");
    for (int k = -1; k < inside.length; k++) {
      Class<?> c = k < 0 ? StandRank.class : inside[k];
      must(k < 0 || Modifier.isStatic(c.getModifiers()) && !Modifier.isPublic(c.getModifiers()), "2: " + c);
      int fields = 0;
      for (Field f : c.getDeclaredFields()) {
        if (!Modifier.isStatic(f.getModifiers())) fields++;
        else must(Modifier.isFinal(f.getModifiers()) && Set.of(int.class, long.class, boolean.class, char.class, String.class)
          .contains(f.getType()), "5: " + f);
      }
      must(fields <= 20, "11: " + c + " has " + fields + " fields");
      for (Method m : c.getDeclaredMethods()) must(m.getParameterCount() <= 7, "11: parameters of " + m);
    }
  }

  /** What the interface says ahead of which calls; calls in the document's order. */
  private static final String[] HEADINGS = {"the court: feed court fault person tires office spot",
    "deeds: play sit change wine evening undo judge perform season", "nights: stands place breakfast worth bestSit",
    "music: alone aloneBy ways sits sitsBy", "rows, chairs: row rowSpot leans chairs", "strengths: rooms bound next",
    "waiting: rests rest", "chances: chance chancellor", "trays, images: numbers write lists image restore count"};

  private static void headings(String text) {
    int at = 0;
    for (int k = 0; k < HEADINGS.length; k++) {
      String[] told = HEADINGS[k].split(": ");
      at = text.indexOf("\n    // ---- " + told[0] + "\n", at);
      must(at > 0, "the face: ---- " + told[0]);
      int behind = text.indexOf("\n    // ---- ", at + 1);
      for (String call : told[1].split(" ")) {
        Matcher m = Pattern.compile("\n    public (int|long) " + call + "\\(").matcher(text);
        must(at >= 0 && m.find(at) && m.start() < behind, "the face: " + call + " behind ---- " + told[0]);
        if (at >= 0 && m.find(at)) at = m.start();
      }
    }
  }

  private static void source(String text) {
    for (int i = 0; i < text.length(); i++) must(text.charAt(i) < 127, "4: a sign of " + (int) text.charAt(i));
    String bare = text.replaceAll("(?s)/\\*.*?\\*/", "").replaceAll("//[^\n]*", "").replaceAll("\"[^\"\n]*\"", "\"\"");
    for (String word : "throw throws try catch synchronized assert protected instanceof package native volatile System.out System.exit".split(" ")) {
      must(!Pattern.compile("(?<![\\w.])" + Pattern.quote(word) + "(?!\\w)").matcher(bare).find(), "6: " + word);
    }
    for (String sign : new String[] {"->", "::", "Exact(", "\"\" +", "+ \"\"", "double", "float"}) must(!bare.contains(sign), "2, 3, 4: " + sign);
    Matcher imports = Pattern.compile("import ([\\w.]+);").matcher(bare);
    while (imports.find()) must(imports.group(1).equals("java.util.Arrays"), "4: " + imports.group(1));
    Matcher library = Pattern.compile("\\b(Arrays|Math|Integer|Long|System|String)\\.(\\w+)").matcher(bare);
    Set<String> listed = Set.of("Arrays.copyOf", "Arrays.copyOfRange", "Arrays.fill", "Math.max", "Math.min", "Math.floorMod",
      "Integer.bitCount", "System.arraycopy");
    while (library.find()) must(listed.contains(library.group()), "4: " + library.group());
    int begun = 0;
    String[] lines = text.split("\n");
    for (int i = 0; i < lines.length; i++) {
      if (lines[i].matches("(    |        )[\\w\\[\\]<> ]+\\([^;]*\\) \\{")) begun = i;
      if (lines[i].matches("(    |        )\\}")) must(i - begun <= 60 || lines[i].equals("    }"), "11: long method at line " + begun);
    }
  }
}
