/** What the tests share: telling texts, filling trays, and saying which answers are not as due. */
final class Check {
  private static int wrong = 0;
  private static int asked = 0;

  private Check() { }

  static void due(String call, long got, long want) {
    asked++;
    if (got != want) {
      wrong++;
      System.out.println(call + " answered " + got + ", due is " + want);
    }
  }

  static void end() {
    System.out.println(wrong == 0 ? "all " + asked + " answers are as due" : wrong + " answers are not as due");
    if (wrong != 0) System.exit(1);
  }

  /** Feeds a text, with blanks behind it, and answers how many bytes the tape has then. */
  static int feed(StandRank x, String text) {
    StringBuilder s = new StringBuilder(text);
    while (s.length() % 20 != 0) s.append(' ');
    int taped = x.count(9);
    for (int i = 0; i < s.length(); i += 20) {
      int[] w = new int[5];
      for (int k = 0; k < 20; k++) w[k / 4] = w[k / 4] << 8 | s.charAt(i + k) & 255;
      taped = x.feed(w[0], w[1], w[2], w[3], w[4]);
    }
    return taped;
  }

  static int tell(StandRank x, String text) {
    feed(x, text);
    return x.court(text.length());
  }

  static StandRank told(String text) {
    StandRank x = new StandRank();
    if (tell(x, text) < 1) {
      due("court: " + text, x.fault(0), 0);
    }
    return x;
  }

  static void tray(StandRank x, int tray, long... v) {
    x.numbers(tray, 3, v.length);
    for (int i = 0; i < v.length; i++) x.write(tray, i, v[i]);
  }

  /** A text must be refused with this fault at this place. */
  static void faulty(String text, int fault, int at) {
    faulty("3", text, fault, at);
  }

  static void faulty(String label, String text, int fault, int at) {
    StandRank x = new StandRank();
    due(label + " court: " + text, tell(x, text), -30 - fault);
    due(label + " fault(0) of: " + text, x.fault(0), fault);
    due(label + " fault(1) of: " + text, x.fault(1), at);
  }

  /** A text must be read: so many lines, no fault. */
  static void fine(String label, String text, int lines) {
    StandRank x = new StandRank();
    due(label + " court: " + text, tell(x, text), lines);
    due(label + " fault(0) of: " + text, x.fault(0), 0);
    due(label + " fault(1) of: " + text, x.fault(1), -1);
  }
}
