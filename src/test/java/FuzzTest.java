import java.lang.reflect.Method;
import java.lang.reflect.Modifier;
import java.util.ArrayList;
import java.util.Comparator;
import java.util.HashMap;
import java.util.List;
import java.util.Map;
import java.util.Random;

/** Runs of random calls, the same on StandRank and on Oracle: every answer must be the same. */
public final class FuzzTest {
  private static final List<Method> CALLS = new ArrayList<>();
  private static final Map<String, Method> SAME = new HashMap<>();
  private static final Map<String, Integer> ANSWERED = new HashMap<>();
  private final Random random;
  private final StandRank x = new StandRank();
  private final Oracle y = new Oracle();
  private final StringBuilder told = new StringBuilder();
  private int calls;
  /** One run in four asks for what is at a bound or just beyond it far more often. */
  private final boolean edgy;

  private FuzzTest(long seed) {
    random = new Random(seed);
    edgy = seed % 4 == 0;
  }

  public static void main(String[] args) throws Exception {
    for (Method m : StandRank.class.getDeclaredMethods()) {
      if (Modifier.isPublic(m.getModifiers())) {
        CALLS.add(m);
        SAME.put(m.getName(), Oracle.class.getDeclaredMethod(m.getName(), m.getParameterTypes()));
        SAME.get(m.getName()).setAccessible(true);
      }
    }
    CALLS.sort(Comparator.comparing(Method::getName));
    long from = args.length > 0 ? Long.parseLong(args[0]) : 1;
    long runs = args.length > 1 ? Long.parseLong(args[1]) : 400;
    for (long seed = from; seed < from + runs; seed++) {
      FuzzTest t = new FuzzTest(seed);
      String wrong = t.run();
      if (wrong != null) {
        System.out.println("seed " + seed + ": " + wrong + "\n" + t.told);
        System.exit(1);
      }
    }
    for (Method m : CALLS) {
      if (args.length > 2) System.out.println(m.getName() + " " + ANSWERED.get(m.getName()));
      if (ANSWERED.getOrDefault(m.getName(), 0) < runs / 8) {
        System.out.println(m.getName() + " was answered too seldom: " + ANSWERED.get(m.getName()));
        System.exit(1);
      }
    }
    System.out.println("all answers are as due: " + ANSWERED.values().stream().mapToInt(n -> n).sum() + " in " + runs + " runs");
  }

  private int below(int n) { return random.nextInt(n); }
  private boolean oneIn(int n) { return random.nextInt(n) == 0; }

  private String run() throws Exception {
    if (!oneIn(10)) {
      String wrong = tell(court());
      if (wrong != null) return wrong;
    }
    int many = 40 + below(400);
    while (calls < many) {
      String wrong = oneIn(60) ? tell(oneIn(3) ? court() : spoiled()) : oneIn(9) ? fillTray() : anyCall();
      if (wrong != null) return wrong;
    }
    return null;
  }

  private String call(String name, Object... args) throws Exception {
    Method m = null;
    for (Method k : CALLS) if (k.getName().equals(name)) m = k;
    calls++;
    long got = ((Number) m.invoke(x, args)).longValue();
    long want = ((Number) SAME.get(name).invoke(y, args)).longValue();
    told.append(name).append(java.util.Arrays.toString(args)).append(" = ").append(got).append('\n');
    if (want > -2) ANSWERED.merge(name, 1, Integer::sum);
    return got == want ? null : name + java.util.Arrays.toString(args) + " answered " + got + ", due is " + want;
  }

  private String tell(String text) throws Exception {
    told.append("text: ").append(text).append('\n');
    int n = text.length();
    StringBuilder s = new StringBuilder(text);
    while (s.length() % 20 != 0) s.append((char) (oneIn(2) ? 32 : below(256)));
    for (int i = 0; i < s.length(); i += 20) {
      Object[] w = new Object[5];
      for (int k = 0; k < 5; k++) {
        int v = 0;
        for (int j = 0; j < 4; j++) v = v << 8 | s.charAt(i + 4 * k + j) & 255;
        w[k] = v;
      }
      String wrong = call("feed", w);
      if (wrong != null) return wrong;
    }
    String wrong = call("court", n);
    for (int what = -1; what <= 2 && wrong == null; what++) wrong = call("fault", what);
    for (int what = 0; what <= 10 && wrong == null; what++) wrong = call("count", what);
    return wrong;
  }

  // ---- texts

  private String court() {
    List<String> lines = new ArrayList<>();
    int people = oneIn(8) ? below(2) : 2 + below(oneIn(3) ? 5 : 3);
    for (int k = 0; k < people; k++) {
      StringBuilder s = new StringBuilder("person strength " + below(oneIn(3) ? 100 : 12));
      for (int j = below(3); j > 0; j--) s.append(" mark ").append(below(10));
      lines.add(s.toString());
    }
    int tunes = oneIn(10) ? 0 : 1 + below(oneIn(4) ? 4 : 2);
    for (int k = 0; k < tunes; k++) {
      StringBuilder s = new StringBuilder("tune");
      for (int j = below(3); j > 0; j--) s.append(" odds ").append(below(oneIn(3) ? 2 : 10));
      lines.add(s.toString());
    }
    for (int k = below(7); k > 0; k--) lines.add("office " + below(oneIn(2) ? 100 : 20));
    if (!oneIn(4)) lines.add("tires : " + law());
    if (!oneIn(3)) lines.add("pains : " + law());
    if (oneIn(5)) lines.add("tires:" + law());
    if (!oneIn(3)) java.util.Collections.shuffle(lines, random);
    StringBuilder s = new StringBuilder("court;");
    for (String line : lines) s.append(oneIn(9) ? "\n" : "").append(line).append(oneIn(9) ? " ;" : ";");
    return s.length() > 860 ? court() : s.toString();
  }

  private String law() {
    switch (below(7)) {
      case 0: return "" + below(5);
      case 1: return "1 + beside";
      case 2: return "if tune = " + below(3) + " then 2 - beside else 1 + mark end";
      case 3: return "if who = tune or strength > " + below(20) + " then " + below(6) + " else beside * " + below(4) + " end";
      case 4: return "if minute < " + below(4) + " then up - beside else tune * 2 + " + below(3) + " end";
      default: return sum(2 + below(3));
    }
  }

  private String sum(int deep) {
    StringBuilder s = new StringBuilder(term(deep));
    while (oneIn(2)) s.append(oneIn(2) ? " + " : "-").append(term(deep));
    return s.toString();
  }
  private String term(int deep) {
    StringBuilder s = new StringBuilder(atom(deep));
    while (oneIn(4)) s.append(" * ").append(atom(deep));
    return s.toString();
  }
  private String atom(int deep) {
    if (deep > 0 && oneIn(4)) return "(" + sum(deep - 1) + ")";
    if (deep > 0 && oneIn(4)) return "if " + truth(deep - 1) + " then " + sum(deep - 1) + " else " + sum(deep - 1) + " end";
    if (oneIn(2)) return "" + (oneIn(5) ? below(1000) : below(6));
    return new String[] {"who", "mark", "strength", "tune", "beside", "up", "minute"}[below(7)];
  }
  private String truth(int deep) {
    StringBuilder s = new StringBuilder(both(deep));
    while (oneIn(4)) s.append(" or ").append(both(deep));
    return s.toString();
  }
  private String both(int deep) {
    StringBuilder s = new StringBuilder(unit(deep));
    while (oneIn(4)) s.append(" and ").append(unit(deep));
    return s.toString();
  }
  private String unit(int deep) {
    if (deep > 0 && oneIn(5)) return "not " + unit(deep - 1);
    if (deep > 0 && oneIn(5)) return "[" + truth(deep - 1) + "]";
    return sum(deep) + new String[] {" = ", "<", " > "}[below(3)] + sum(deep);
  }

  private static final String[] BITS = {"person", "tune", "office", "tires", "pains", ":", ";", "strength", "mark", "odds", "court",
    "if", "then", "else", "end", "not", "and", "or", "(", ")", "[", "]", "=", "<", ">", "+", "-", "*", "0", "100", "1000", "99", "10",
    "who", "beside", "up", "minute", "x", "?", "\t", "A", "\u00ff", " ", "\n", "007", "not not not not", "((((", "[[["};

  private String spoiled() {
    StringBuilder s = new StringBuilder(oneIn(4) ? "court;tires : " + sum(6) + ";" : court());
    for (int k = 1 + below(2); k > 0 && s.length() > 0; k--) {
      int at = below(s.length());
      switch (below(4)) {
        case 0: s.setLength(at); break;
        case 1: s.delete(at, Math.min(s.length(), at + 1 + below(6))); break;
        case 2: s.insert(at, " " + BITS[below(BITS.length)] + " "); break;
        default: s.insert(at, BITS[below(BITS.length)]); break;
      }
    }
    if (s.length() > 880) s.setLength(880);
    return s.toString();
  }

  // ---- calls

  private String fillTray() throws Exception {
    int tray = below(3);
    int sort = oneIn(2) ? 1 : below(4);
    int kind = below(4);
    int n = kind == 2 ? 1 + below(4) : oneIn(12) ? below(42) : below(8);
    String wrong = call("numbers", tray, sort, n);
    for (int i = 0; i < n && wrong == null; i++) wrong = call("write", tray, i, number(kind));
    return wrong;
  }

  private long number(int kind) {
    if (oneIn(kind <= 1 ? 200 : 40)) return random.nextLong();
    if (kind <= 1) return oneIn(200) ? below(5) : below(Math.max(1, x.count(1)));
    if (kind == 2) return below(Math.max(1, x.count(0)));
    switch (below(6)) {
      case 0: return 10 + below(7);
      case 1: return 100 + 10 * below(5) + below(5);
      case 2: return 200 + 10 * below(5) + below(10);
      case 3: return oneIn(3) ? -1 : below(3);
      case 4: return oneIn(8) ? below(320) - 10 : below(2);
      default: return below(3);
    }
  }

  private String anyCall() throws Exception {
    Method m = CALLS.get(below(CALLS.size()));
    String name = m.getName();
    if (name.equals("feed") || name.equals("court") && !oneIn(10)) return null;
    if (name.equals("restore") && oneIn(2)) return null;
    if (name.equals("evening") && oneIn(2)) return null;
    Object[] args = new Object[m.getParameterCount()];
    for (int k = 0; k < args.length; k++) {
      args[k] = m.getParameterTypes()[k] == long.class ? (Object) number(3) : (Object) argument(name, k);
    }
    boolean dear = name.equals("row") || name.equals("rowSpot") || x.count(1) > 2 && !name.equals("chairs");
    if (dear && oneIn(2)) return null;
    return call(name, args);
  }

  /** Mostly one that stands. */
  private int somebody() {
    int p = below(6);
    for (int k = 0; k < 6 && !oneIn(12); k++) {
      if (x.person(p, 2) == 1) return p;
      p = (p + 1) % 6;
    }
    return p;
  }

  /** Mostly one that is a night, if nights are asked for. */
  private int someTray(boolean night) {
    int tray = below(4);
    for (int k = 0; k < 4 && night && !oneIn(12); k++) {
      if (x.breakfast(tray) >= 0) return tray;
      tray = (tray + 1) % 4;
    }
    return tray;
  }

  private static final int[] EDGES = {Integer.MIN_VALUE, -2, -1, 0, 1, 2, 3, 4, 5, 6, 7, 8, 9, 10, 11, 19, 20, 21, 30, 31, 39, 40, 41, Integer.MAX_VALUE};

  private int argument(String name, int k) {
    if (edgy && oneIn(4)) return EDGES[below(EDGES.length)];
    if (oneIn(60)) return oneIn(2) ? random.nextInt() : below(60) - 20;
    switch (name) {
      case "season": return k == 0 ? random.nextInt() : oneIn(3) ? below(44) : below(6);
      case "rests": case "rest":
        if (k == 3) return below(oneIn(5) ? 23 : 8);
        return k < 2 ? somebody() : k == 2 ? below(2) : below(6) - (oneIn(5) ? 1 : 0);
      case "rooms": case "bound": case "next":
        return k == 2 ? below(6) : k == 3 ? below(2) : k == 0 ? someTray(true) : somebody();
      case "ways": case "chance": case "chancellor":
        if (name.equals("chancellor")) return below(7);
        return k == 1 ? below(oneIn(6) ? 9 : 7) : k == 0 ? somebody() : below(2);
      case "image": case "restore": return below(2);
      case "undo": return 1 + below(oneIn(4) ? 11 : 2);
      case "wine": return k == 0 ? below(5) : below(11);
      case "count": return below(12);
      case "person": return k == 0 ? below(5) : below(7);
      case "stands": case "place": case "breakfast": case "worth": case "bestSit": case "row": case "rowSpot": case "leans": case "chairs":
        return k == 0 ? someTray(true) : k == 1 ? somebody() : below(name.equals("chairs") ? 2 : 6);
      case "alone": case "aloneBy": return k == 0 ? somebody() : below(8);
      case "lists": return k == 0 ? someTray(false) : somebody();
      case "sits": case "sitsBy": case "judge": case "perform": return k == 0 ? someTray(false) : below(5);
      default: return below(oneIn(4) ? 7 : 4);
    }
  }
}
