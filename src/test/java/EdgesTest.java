import java.lang.reflect.Method;
import java.lang.reflect.Modifier;
import java.util.ArrayList;
import java.util.Comparator;
import java.util.List;

/**
 * Promises 2 to 44: every call with every mix of arguments at and around the bounds, in courts that are empty, full,
 * seated, without tunes: it answers as Oracle does, and never throws.
 */
public final class EdgesTest {
  private static final int LOW = Integer.MIN_VALUE;
  private static final int HIGH = Integer.MAX_VALUE;
  /** By how many arguments a call has. */
  private static final int[][] EDGES = {
    {},
    {LOW, -2, -1, 0, 1, 2, 3, 4, 5, 6, 7, 8, 9, 10, 11, 12, 19, 20, 21, 30, 39, 40, 41, 899, 900, 901, HIGH},
    {LOW, -1, 0, 1, 2, 3, 4, 5, 6, 7, 8, 9, 10, 40, 41, HIGH},
    {LOW, -1, 0, 1, 2, 3, 4, 5, 6, 7, 41, HIGH},
    {-1, 0, 1, 2, 3, 4, 6, 21},
    {-1, 0, 1, 2, 6, 21},
  };
  private static final long[] WRITTEN = {Long.MIN_VALUE, LOW, -129, -128, -1, 0, 1, 127, 128, 255, 256, 32768, 65536, HIGH, 1L << 31, 1L << 32, Long.MAX_VALUE};
  private static final String FULL = "court;" + "person strength 3 mark 9;".repeat(6) + "tune odds 9;".repeat(4) + "office 99;".repeat(6)
    + "tires : beside + tune - who;pains : up - who * 2;";
  private static final String[] STATES = {"new", "empty text", "no tunes", "no people", "two", "full", "seated", "late"};

  private StandRank x;
  private Oracle y;
  private int calls;

  public static void main(String[] args) throws Exception {
    List<Method> all = new ArrayList<>();
    for (Method m : StandRank.class.getDeclaredMethods()) if (Modifier.isPublic(m.getModifiers())) all.add(m);
    all.sort(Comparator.comparing(Method::getName));
    for (String state : STATES) for (Method m : all) new EdgesTest().mix(state, m);
    Check.end();
  }

  private void mix(String state, Method m) throws Exception {
    Class<?>[] types = m.getParameterTypes();
    int[] at = new int[types.length];
    int limit = m.getName().equals("feed") ? 3 : HIGH;
    calls = HIGH;
    boolean more = true;
    while (more) {
      // an object is used for at most 512 calls
      if (calls > 400) make(state);
      Object[] args = new Object[types.length];
      for (int k = 0; k < at.length; k++) args[k] = types[k] == long.class ? (Object) WRITTEN[at[k]] : (Object) EDGES[types.length][at[k]];
      call(state, m.getName(), args);
      int k = at.length - 1;
      while (k >= 0 && ++at[k] == Math.min(limit, types[k] == long.class ? WRITTEN.length : EDGES[types.length].length)) at[k--] = 0;
      more = k >= 0;
    }
  }

  private void call(String state, String name, Object... args) throws Exception {
    calls++;
    Class<?>[] types = new Class<?>[args.length];
    for (int k = 0; k < types.length; k++) types[k] = args[k] instanceof Long ? long.class : int.class;
    Method other = Oracle.class.getDeclaredMethod(name, types);
    other.setAccessible(true);
    long want = ((Number) other.invoke(y, args)).longValue();
    long got = ((Number) StandRank.class.getDeclaredMethod(name, types).invoke(x, args)).longValue();
    if (got != want) Check.due("in " + state + ", " + name + java.util.Arrays.toString(args), got, want);
    else Check.due(name, 0, 0);
  }

  private void make(String state) throws Exception {
    x = new StandRank();
    y = new Oracle();
    calls = 0;
    switch (state) {
      case "empty text": tell("court;"); break;
      case "no tunes": tell("court;person strength 3;person strength 2;office 4;"); break;
      case "no people": tell("court;tune;office 4;"); break;
      case "two": tell("court;person strength 3;person strength 2;tune;office 4;tires : 1;pains : 1;"); break;
      case "full": case "seated": case "late": tell(FULL); break;
      default: break;
    }
    if (!state.equals("new")) {
      tray(0, 0, 0, 0, 1);
      tray(1, 1, 10, 101, 201, 3);
      tray(2, 3, 1, 0);
      call(state, "image", 0);
    }
    if (state.equals("seated")) for (int p = 0; p < 6; p++) call(state, "sit", p);
    if (state.equals("late")) for (int k = 0; k < 14; k++) call(state, "change", k % 6, (k + 1) % 6);
    if (state.equals("late")) call(state, "play", 3);
  }

  private void tell(String text) throws Exception {
    StringBuilder s = new StringBuilder(text);
    while (s.length() % 20 != 0) s.append(' ');
    for (int i = 0; i < s.length(); i += 20) {
      Object[] w = new Object[5];
      for (int k = 0; k < 5; k++) {
        int v = 0;
        for (int j = 0; j < 4; j++) v = v << 8 | s.charAt(i + 4 * k + j);
        w[k] = v;
      }
      call("tell", "feed", w);
    }
    call("tell", "court", text.length());
  }

  private void tray(int tray, int sort, long... v) throws Exception {
    call("tray", "numbers", tray, sort, v.length);
    for (int i = 0; i < v.length; i++) call("tray", "write", tray, i, v[i]);
  }
}
