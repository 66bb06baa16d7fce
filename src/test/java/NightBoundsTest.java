/** Promises 18 to 22 (stands, place, breakfast, worth, bestSit), the codes of all calls that ask for a NIGHT, and its Terms. */
public final class NightBoundsTest {
  private static final int LOW = Integer.MIN_VALUE;
  private static final int HIGH = Integer.MAX_VALUE;
  /** Two tunes; 0 and 1 stand, 2 sat in a minute, 3 of its own. */
  private static final int STANDS = 1;
  private static final int SITS = 3;

  interface Ask { long of(StandRank x, int tray, int p); }

  /** A call that asks for a NIGHT: what is told ahead of its code, and whether one that SITS may be asked for. */
  private static final class Call {
    final String name;
    final Ask ask;
    final long wide;
    final boolean ofAPerson;
    final boolean mustStand;

    Call(String name, boolean ofAPerson, boolean mustStand, long wide, Ask ask) {
      this.name = name;
      this.ask = ask;
      this.wide = wide;
      this.ofAPerson = ofAPerson;
      this.mustStand = mustStand;
    }
  }

  private static final Call[] CALLS = {
    new Call("P18 stands", true, true, 0, (x, t, p) -> x.stands(t, p)),
    new Call("P19 place", true, false, 0, (x, t, p) -> x.place(t, p)),
    new Call("P20 breakfast", false, false, 0, (x, t, p) -> x.breakfast(t)),
    new Call("P21 worth", true, false, -99000000, (x, t, p) -> x.worth(t, p)),
    new Call("P22 bestSit", true, true, -99000000, (x, t, p) -> x.bestSit(t, p)),
    new Call("P28 row", true, true, 0, (x, t, p) -> x.row(t, p)),
    new Call("P29 rowSpot", true, true, 0, (x, t, p) -> x.rowSpot(t, p, 0)),
    new Call("P29 rowSpot of no spot", true, true, 0, (x, t, p) -> x.rowSpot(t, p, 4)),
    new Call("P30 leans", true, true, 0, (x, t, p) -> x.leans(t, p)),
    new Call("P31 chairs 0", true, true, 0, (x, t, p) -> x.chairs(t, p, 0)),
    new Call("P31 chairs 1", true, true, 0, (x, t, p) -> x.chairs(t, p, 1)),
    new Call("P32 rooms", true, true, 0, (x, t, p) -> x.rooms(t, p, 0)),
    new Call("P33 bound 0", true, true, 0, (x, t, p) -> x.bound(t, p, 0, 0)),
    new Call("P33 bound 1", true, true, 0, (x, t, p) -> x.bound(t, p, 0, 1)),
    new Call("P34 next", true, true, 0, (x, t, p) -> x.next(t, p, 0)),
  };

  public static void main(String[] args) {
    for (Call call : CALLS) {
      noTray(call);
      noPerson(call);
      missing(call);
      tooMany(call);
      noTune(call);
      itSits(call);
      asksOnly(call);
    }
    standsAnswers();
    standsLengths();
    placeAnswers();
    breakfastAnswers();
    worthAnswers();
    worthOffices();
    bestSitAnswers();
    bestSitLeast();
    Check.end();
  }

  private static void refused(Call call, String why, Twin.Made made, int tray, int p, int code) {
    Twin.leaves(call.name + ": " + why, made, x -> call.ask.of(x, tray, p), call.wide + code);
  }

  /** It isn't refused; only its own -7 is left to the one that asks for no spot. */
  private static void answered(Call call, String why, long answer) {
    boolean refused = call.wide < 0 ? answer < -90000000 : answer < -1;
    if (call.name.endsWith("of no spot")) Check.due(call.name + ": " + why, answer, -7);
    else if (refused) Check.due(call.name + ": " + why + ", refused", answer, 0);
    else Check.due(call.name + ": " + why, answer, answer);
  }

  /** -2: the TRAY, ahead of all others. */
  private static void noTray(Call call) {
    for (int t : new int[] {LOW, -1, 4, 5, HIGH}) {
      refused(call, "tray " + t, Twin::busy, t, STANDS, -2);
      refused(call, "tray " + t + " and one that sits", Twin::busy, t, SITS, -2);
      refused(call, "tray " + t + " and nobody", Twin::busy, t, 4, -2);
    }
  }

  /** -2: the PERSON, ahead of -6, -4, -3. */
  private static void noPerson(Call call) {
    for (int p : new int[] {LOW, -1, 4, 5, 6, HIGH}) {
      if (call.ofAPerson) {
        refused(call, "person " + p, Twin::busy, 0, p, -2);
        refused(call, "person " + p + ", ahead of missing", Twin::busy, 3, p, -2);
        refused(call, "person " + p + ", ahead of too many", () -> withTray(31, 0), 0, p, -2);
        refused(call, "person " + p + ", ahead of no tune", () -> withTray(3, 2), 0, p, -2);
      }
    }
  }

  private static StandRank withTray(int n, long last) {
    StandRank x = Twin.busy();
    x.numbers(0, 3, n);
    if (n > 0) x.write(0, n - 1, last);
    return x;
  }

  /** -6: a TRAY is MISSING, ahead of -5. */
  private static void missing(Call call) {
    refused(call, "missing", Twin::busy, 3, STANDS, -6);
    refused(call, "missing, ahead of sitting", Twin::busy, 3, SITS, -6);
    refused(call, "missing, each of four", () -> Check.told("court;person strength 1;person strength 1;tune;"), 0, STANDS, -6);
  }

  /** -4: more than 30 numbers, ahead of -3 and -5; 0 to 30 are a NIGHT. */
  private static void tooMany(Call call) {
    for (int n : new int[] {31, 32, 40}) {
      refused(call, n + " numbers", () -> withTray(n, 0), 0, STANDS, -4);
      refused(call, n + " numbers, ahead of no tune", () -> withTray(n, 2), 0, STANDS, -4);
      refused(call, n + " numbers, ahead of sitting", () -> withTray(n, 0), 0, SITS, -4);
    }
    for (int n : new int[] {0, 1, 2, 29, 30}) {
      answered(call, n + " numbers are a night", call.ask.of(withTray(n, 0), 0, STANDS));
    }
  }

  /** -3: one is no TUNE, ahead of -5. */
  private static void noTune(Call call) {
    for (long v : new long[] {-1, 2, 3, 4, 1L << 32, -1L << 32, (1L << 32) + 1, Long.MIN_VALUE, Long.MAX_VALUE}) {
      for (int n : new int[] {1, 3, 30}) {
        refused(call, "no tune " + v + ", the last of " + n, () -> withTray(n, v), 0, STANDS, -3);
        refused(call, "no tune " + v + ", ahead of sitting", () -> withTray(n, v), 0, SITS, -3);
      }
      refused(call, "no tune " + v + ", the first", () -> {
        StandRank x = withTray(3, 0);
        x.write(0, 0, v);
        return x;
      }, 0, STANDS, -3);
    }
    refused(call, "a court without tunes", () -> {
      StandRank x = Check.told("court;person strength 1;person strength 1;");
      x.numbers(0, 1, 1);
      return x;
    }, 0, STANDS, -3);
    for (long v : new long[] {0, 1}) answered(call, "tune " + v, call.ask.of(withTray(3, v), 0, STANDS));
  }

  /** -5: it SITS now; without that code one that SITS can be asked for. */
  private static void itSits(Call call) {
    for (int p : new int[] {2, 3}) {
      if (call.mustStand) refused(call, "it sits, " + p, Twin::busy, 0, p, -5);
      else answered(call, "of one that sits, " + p, call.ask.of(Twin.busy(), 0, p));
    }
    if (call.mustStand) {
      refused(call, "it sits, and there are no minutes", () -> withTray(0, 0), 0, SITS, -5);
    }
  }

  /** A call that asks changes nothing. */
  private static void asksOnly(Call call) {
    for (int p : new int[] {0, 1}) {
      StandRank x = Twin.busy();
      long first = call.ask.of(x, 0, p);
      Check.due(call.name + ": asked again", call.ask.of(x, 0, p), first);
      Twin.same(call.name + ": asks", x, Twin.busy());
    }
  }

  /** Promise 18: how many of its MINUTES it STANDS to the end of (all: it SITS in none). */
  private static void standsAnswers() {
    for (int strength = 0; strength <= 6; strength++) {
      StandRank x = Check.told("court;person strength " + strength + ";tune;");
      for (int n = 0; n <= 6; n++) {
        x.numbers(0, 0, n);
        Check.due("P18 strength " + strength + ", " + n + " minutes", x.stands(0, 0), Math.min(strength, n));
      }
    }
    StandRank x = Check.told("court;person strength 2;tune;");
    x.numbers(0, 0, 3);
    x.play(0);
    Check.due("P18 from now on", x.stands(0, 0), 1);
    x.wine(0, 2);
    Check.due("P18 all", x.stands(0, 0), 3);
  }

  /** Terms, NIGHT: 0 to 30 TUNES. */
  private static void standsLengths() {
    StandRank x = Check.told("court;person strength 29;person strength 30;person strength 31;tune;");
    int[][] want = {{0, 0, 0, 0}, {1, 1, 1, 1}, {28, 28, 28, 28}, {29, 29, 29, 29}, {30, 29, 30, 30}};
    for (int[] w : want) {
      x.numbers(0, 1, w[0]);
      for (int p = 0; p < 3; p++) Check.due("P18 " + w[0] + " minutes, of " + p, x.stands(0, p), w[p + 1]);
    }
    Check.due("P20 behind 30 minutes", x.breakfast(0), 6);
    Check.due("P21 behind 30 minutes", x.worth(0, 0), -30);
    x.numbers(0, 1, 31);
    Check.due("P18 31 minutes", x.stands(0, 0), -4);
  }

  /** Promise 19: the PLACE behind a NIGHT, 0 to 5, of those who SIT now, too. */
  private static void placeAnswers() {
    StandRank x = Check.told("court;person strength 5;person strength 2;person strength 0;person strength 2;person strength 9;person strength 9;tune;");
    x.sit(5);
    int[][] want = {{0, 1, 2, 3, 4, 5}, {0, 1, 4, 2, 3, 5}, {0, 1, 4, 2, 3, 5}, {0, 2, 4, 3, 1, 5}, {0, 2, 4, 3, 1, 5}, {0, 2, 4, 3, 1, 5}, {1, 2, 4, 3, 0, 5}};
    for (int n = 0; n < want.length; n++) {
      x.numbers(1, 1, n);
      for (int p = 0; p < 6; p++) Check.due("P19 behind " + n + " minutes, of " + p, x.place(1, p), want[n][p]);
    }
    Check.due("P19 now all stand but one", x.count(3), 31);
  }

  /** Promise 20: who STANDS behind a NIGHT, as bits. */
  private static void breakfastAnswers() {
    StandRank x = Check.told("court;person strength 0;person strength 1;person strength 2;person strength 3;person strength 4;person strength 5;tune;");
    for (int n = 0; n <= 7; n++) {
      x.numbers(2, 2, n);
      Check.due("P20 behind " + n + " minutes", x.breakfast(2), 63 & ~((1 << n) - 1));
    }
    x.sit(5);
    x.numbers(2, 2, 0);
    Check.due("P20 one sits", x.breakfast(2), 31);
    x = new StandRank();
    x.numbers(0, 0, 0);
    Check.due("P20 no people", x.breakfast(0), 0);
    x.numbers(0, 0, 1);
    Check.due("P20 no tunes", x.breakfast(0), -3);
  }

  /** Promise 21: its PLACE behind the NIGHT, less all its PAIN. */
  private static void worthAnswers() {
    StandRank x = Check.told("court;person strength 9;person strength 1;tune;pains : 10 + minute;office 50;office 20;");
    int[][] want = {{50, 20}, {40, 10}, {29, -1}, {17, -1}};
    for (int n = 0; n < want.length; n++) {
      x.numbers(0, 1, n);
      for (int p = 0; p < 2; p++) Check.due("P21 behind " + n + " minutes, of " + p, x.worth(0, p), want[n][p]);
    }
    x.play(0);
    x.numbers(0, 1, 1);
    Check.due("P21 all its pain, of now, too", x.worth(0, 0), 50 - 21);
    x.sit(0);
    Check.due("P21 of one that sits", x.worth(0, 0), 20 - 10);
    x = Check.told("court;person strength 99;tune;tires : 0;pains : 0 - 99;office 99;");
    x.numbers(0, 1, 30);
    Check.due("P21 the most", x.worth(0, 0), 99 + 99 * 30);
    x = Check.told("court;person strength 99;tune;tires : 0;pains : 99;");
    x.numbers(0, 1, 30);
    Check.due("P21 the least", x.worth(0, 0), -99 * 30);
  }

  /** Terms: what it is WORTH: that of the OFFICE of its PLACE (without one: 0). */
  private static void worthOffices() {
    for (int offices = 0; offices <= 6; offices++) {
      StringBuilder s = new StringBuilder("court;" + "person strength 9;".repeat(6) + "tune;");
      for (int k = 0; k < offices; k++) s.append("office ").append(60 - 10 * k).append(';');
      StandRank x = Check.told(s.toString());
      x.numbers(0, 1, 0);
      for (int p = 0; p < 6; p++) Check.due("P21 of " + offices + " offices, place " + p, x.worth(0, p), p < offices ? 60 - 10 * p : 0);
    }
  }

  /** Promise 22: 0 to all MINUTES. */
  private static void bestSitAnswers() {
    for (int n : new int[] {0, 1, 2, 29, 30}) {
      StandRank x = Check.told("court;person strength 99;tune;tires : 0;pains : 0 - 1;");
      x.numbers(0, 1, n);
      Check.due("P22 paid to stand: all of " + n, x.bestSit(0, 0), n);
      x = Check.told("court;person strength 99;tune;tires : 0;pains : 1;");
      x.numbers(0, 1, n);
      Check.due("P22 pained: 0 of " + n, x.bestSit(0, 0), 0);
    }
    // it is paid for two minutes, pained then
    StandRank x = Check.told("court;person strength 99;person strength 99;tune;tires : 0;pains : minute * 2 - 3;");
    x.numbers(0, 1, 6);
    Check.due("P22 between", x.bestSit(0, 1), 2);
    // the other one sits in minute 3: it must stand to its end to be the later one
    x = Check.told("court;person strength 99;person strength 2;tune;pains : 1;office 50;office 10;");
    x.numbers(0, 1, 8);
    Check.due("P22 just to the end of that", x.bestSit(0, 0), 3);
    Check.due("P22 of that one: it can't be the later one", x.bestSit(0, 1), 0);
  }

  /** Promise 22: the least of like ones. */
  private static void bestSitLeast() {
    StandRank x = Check.told("court;person strength 99;person strength 99;tune;pains : 0;");
    x.numbers(0, 1, 5);
    Check.due("P22 all alike", x.bestSit(0, 0), 0);
    // paid 1 in the first minute, nothing in the second, pained and paid by 1 then
    x = Check.told("court;person strength 99;tune;tires : 0;pains : if minute = 0 then 0 - 1 else if minute = 1 then 0 else if minute = 2 then 1 else 0 - 1 end end end;");
    x.numbers(0, 1, 4);
    Check.due("P22 1, 2, 4 alike", x.bestSit(0, 0), 1);
    // it sits by itself in minute 3: more is all the same
    x = Check.told("court;person strength 2;tune;pains : 0 - 1;");
    x.numbers(0, 1, 6);
    Check.due("P22 3 to 6 alike", x.bestSit(0, 0), 3);
  }
}
