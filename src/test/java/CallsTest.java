import java.lang.reflect.Method;
import java.lang.reflect.Modifier;
import java.util.ArrayList;
import java.util.Comparator;
import java.util.List;
import java.util.Random;

/** What it is: an object is used for at most 512 calls. To the last of them it answers as due, whatever the others were. */
public final class CallsTest {
  private static final int MOST = 512;
  private StandRank x = new StandRank();
  private int calls;

  public static void main(String[] args) throws Exception {
    new CallsTest().plays();
    new CallsTest().nightsDone();
    new CallsTest().seats();
    new CallsTest().courts();
    new CallsTest().longCourts();
    new CallsTest().faults();
    new CallsTest().undone();
    new CallsTest().images();
    new CallsTest().written();
    new CallsTest().refused();
    for (int seed = 1; seed <= 40; seed++) new CallsTest().anything(seed);
    Check.end();
  }

  private long due(String call, long got, long want) {
    calls++;
    Check.due("call " + calls + ", " + call, got, want);
    return got;
  }

  private boolean more() { return calls < MOST; }

  private void tell(String text) {
    calls += (text.length() + 19) / 20;
    // Check.feed asks for count(9) once
    calls += 2;
    Check.tell(x, text);
  }

  private void end(String name) { Check.due(name + ": so many calls", calls, MOST); }

  private void plays() {
    tell("court;person strength 99;tune;tires : 0;pains : 99;");
    int minutes = 0;
    while (calls < MOST - 2) {
      due("play(0)", x.play(0), 0);
      minutes++;
    }
    due("minutes", x.count(5), minutes);
    due("pain", x.person(0, 5), 99 * minutes);
    end("plays");
  }

  private void nightsDone() {
    tell("court;person strength 99;person strength 1;tune;tires : who;pains : 0 - 99;");
    due("numbers", x.numbers(3, 0, 40), 0);
    int minutes = 0;
    while (calls < MOST - 5) {
      due("perform(3)", x.perform(3), 40);
      minutes += 40;
    }
    due("minutes", x.count(5), minutes);
    due("sit(0)", x.sit(0), 0);
    due("pain of so many", x.person(0, 5), -99 * minutes);
    due("it sat behind so many", x.person(0, 6), minutes);
    due("the other one sat long ago", x.person(1, 6), 2);
    end("nights done");
  }

  private void seats() {
    tell("court;person strength 5;person strength 5;person strength 5;tune;");
    for (int k = 0; calls < MOST - 8; k++) {
      due("the first to sit is the last", x.sit(k % 3), 2);
      due("then the next one", x.sit((k + 1) % 3), 1);
      due("then the last one", x.sit((k + 2) % 3), 0);
      due("the first one", x.person(k % 3, 4), 2);
      due("evening()", x.evening(), 0);
    }
    while (more()) due("how many can be undone", x.count(8), 10);
    end("seats");
  }

  private void courts() {
    for (int k = 10; calls < MOST - 3; k = k == 99 ? 10 : k + 1) {
      int digits = '0' + k / 10 << 24 | '0' + k % 10 << 16 | ';' << 8 | ' ';
      due("feed", x.feed(0x636f7572, 0x743b6f66, 0x66696365, 0x20202020, digits), 20);
      due("court(20)", x.court(20), 2);
      due("office(0)", x.office(0), k);
    }
    while (more()) due("lines", x.count(10), 2);
    end("courts");
  }

  private void longCourts() {
    StringBuilder text = new StringBuilder("court;person strength 7;tune;tires : 2;");
    while (text.length() + 12 < 900) text.append("tires : 3 ;\n");
    for (int k = text.length(); k < 900; k++) text.append(' ');
    int lines = text.toString().split(";").length - 1;
    while (calls < MOST - 50) {
      calls += 46;
      Check.feed(x, text.toString());
      due("court(900)", x.court(900), lines);
      due("tires", x.tires(0, 0), 3);
    }
    while (more()) due("lines", x.count(10), lines);
    end("long courts");
  }

  private void faults() {
    while (calls < MOST - 1) due("court(0)", x.court(0), -32);
    due("its place", x.fault(1), 0);
    end("faults");
  }

  private void undone() {
    tell("court;person strength 9;person strength 8;tune;");
    for (int k = 0; calls < MOST - 30; k++) {
      int n = 1 + k % 10;
      for (int i = 0; i < n; i++) due("play(0)", x.play(0), i < 8 ? 0 : 1);
      due("undo(" + n + ")", x.undo(n), 0);
      due("minutes", x.count(5), 0);
    }
    while (more()) due("strengths", x.count(6), 17);
    end("undone");
  }

  private void images() {
    tell("court;person strength 60;tune;");
    int left = 60;
    while (calls < MOST - 4) {
      due("image(0)", x.image(0), 0);
      due("play(0)", x.play(0), left == 0 ? 1 : 0);
      due("image(1)", x.image(1), 0);
      due("restore(0)", x.restore(0), 0);
      due("as it was", x.person(0, 0), left);
      due("restore(1)", x.restore(1), 0);
      left--;
      due("as it was then", x.person(0, 0), Math.max(left, 0));
      due("nothing can be undone", x.count(8), 0);
      if (left < 0) {
        due("evening()", x.evening(), 61);
        left = 60;
      }
    }
    while (more()) due("people", x.count(0), 1);
    end("images");
  }

  private void written() {
    for (int k = 0; calls < MOST - 1; k++) {
      due("numbers", x.numbers(k % 4, k / 4 % 4, 40), 0);
      for (int i = 0; i < 9 && more(); i++) due("write", x.write(k % 4, 4 * i, i - 4), i - 4);
    }
    while (more()) due("judge(0, 1)", x.judge(0, 1), 1);
    end("written");
  }

  private void refused() {
    while (calls < MOST - 6) {
      due("person", x.person(0, 0), -99000002);
      due("play", x.play(0), -11);
      due("judge", x.judge(0, 0), -6);
      due("restore", x.restore(1), -5);
      due("undo", x.undo(1), -3);
    }
    due("count(8)", x.count(8), 0);
    due("numbers", x.numbers(0, 0, 1), 0);
    while (more()) due("write", x.write(0, 1, 0), -7);
    end("refused");
  }

  // ---- anything at all, against Oracle

  private static final String[] TEXTS = {
    "court;person strength 5 mark 1;person strength 3;person strength 4 mark 2;tune;tune odds 2;office 10;office 4;"
      + "tires : if tune = 0 then 2 - beside else 1 + mark end;pains : 1 + mark;",
    "court;person strength 9;person strength 7;person strength 8;person strength 2;tune odds 3;tune odds 0;tires : beside + tune;pains : up - minute;office 7;",
    "court;person strength 99;person strength 98;tune;office 9;office 4;pains : 3;"};

  private void anything(long seed) throws Exception {
    Random random = new Random(seed);
    List<Method> all = new ArrayList<>();
    for (Method m : StandRank.class.getDeclaredMethods()) {
      boolean text = m.getName().equals("feed") || m.getName().equals("court");
      if (Modifier.isPublic(m.getModifiers()) && !text) all.add(m);
    }
    all.sort(Comparator.comparing(Method::getName));
    Oracle y = new Oracle();
    String text = TEXTS[random.nextInt(TEXTS.length)];
    for (int i = 0; i < text.length(); i += 20) {
      int[] w = new int[5];
      for (int k = 0; k < 20; k++) w[k / 4] = w[k / 4] << 8 | (i + k < text.length() ? text.charAt(i + k) : ' ');
      due("feed", x.feed(w[0], w[1], w[2], w[3], w[4]), y.feed(w[0], w[1], w[2], w[3], w[4]));
    }
    due("court", x.court(text.length()), y.court(text.length()));
    while (more()) {
      Method m = all.get(random.nextInt(all.size()));
      Class<?>[] types = m.getParameterTypes();
      Object[] args = new Object[types.length];
      for (int k = 0; k < args.length; k++) {
        int v = random.nextInt(12) == 0 ? random.nextInt(45) - 2 : random.nextInt(3);
        args[k] = types[k] == long.class ? (Object) (long) v : (Object) v;
      }
      Method other = Oracle.class.getDeclaredMethod(m.getName(), types);
      other.setAccessible(true);
      long want = ((Number) other.invoke(y, args)).longValue();
      due("seed " + seed + ", " + m.getName() + java.util.Arrays.toString(args), ((Number) m.invoke(x, args)).longValue(), want);
    }
    end("anything");
  }
}
