/** Promises 28 to 31 (row, rowSpot, leans, chairs) and their Terms: each least and most; NightBoundsTest has the codes of a NIGHT. */
public final class RowBoundsTest {
  private static final int LOW = Integer.MIN_VALUE;
  private static final int HIGH = Integer.MAX_VALUE;

  public static void main(String[] args) {
    rowAnswers();
    rowFirst();
    rowAllOrders();
    rowOfThoseWhoSit();
    rowSpotCodes();
    leansAnswers();
    leansOthers();
    leansFewer();
    chairsWhat();
    chairsAnswers();
    chairsOthers();
    chairsLeastSet();
    chairsBehindTheNight();
    Check.end();
  }

  private static void row(String label, StandRank x, int tray, int p, int minutes, int... people) {
    Check.due("P28 " + label, x.row(tray, p), minutes);
    for (int k = 0; k < people.length; k++) Check.due("P29 " + label + ", spot " + k, x.rowSpot(tray, p, k), people[k]);
    Check.due("P29 " + label + ", no more spots", x.rowSpot(tray, p, people.length), -7);
  }

  /** Promise 28: how many MINUTES it STANDS in the best one, 0 to all. */
  private static void rowAnswers() {
    for (int n : new int[] {0, 1, 2, 3, 29, 30}) {
      StandRank x = Check.told("court;person strength 99;person strength 2;person strength 0;tune;tires : if who = 0 then beside else 2 - beside end;");
      x.numbers(0, 1, n);
      row("all of " + n, x, 0, 0, n, 0, 1, 2);
      Check.due("P28 nothing changes", x.spot(0), 0);
    }
    StandRank x = Check.told("court;person strength 0;person strength 5;tune;tires : 1 + beside;");
    x.numbers(0, 1, 3);
    row("0 in every row", x, 0, 0, 0, 0, 1);
    x = Check.told("court;person strength 0;tune;");
    x.numbers(0, 1, 30);
    row("one person", x, 0, 0, 0, 0);
  }

  /** Terms, ROWS: of like ones the first by PEOPLE, SPOT by SPOT. */
  private static void rowFirst() {
    StandRank x = Check.told("court;" + "person strength 9;".repeat(6) + "tune;tires : if who = 3 then beside * 5 else 0 end;");
    x.numbers(0, 1, 2);
    // at an end it is tired by 5, between two by 10: 3 is best at an end, the first such row has it on the last spot
    row("at an end", x, 0, 3, 1, 0, 1, 2, 4, 5, 3);
    row("all rows alike", x, 0, 2, 2, 0, 1, 2, 3, 4, 5);
    x.change(0, 5);
    row("as it stands now is nothing", x, 0, 2, 2, 0, 1, 2, 3, 4, 5);
    // a law of beside alone: 1 is best at an end, between two it sits in minute 1
    x = Check.told("court;person strength 9;person strength 1;person strength 9;tune;tires : beside;");
    x.numbers(0, 1, 2);
    row("beside alone", x, 0, 1, 1, 0, 2, 1);
    x = Check.told("court;" + "person strength 9;".repeat(3) + "tune;tires : if who = 0 then 9 - beside * 4 else 0 end;");
    x.numbers(0, 1, 3);
    row("between two: 1 0 2 is ahead of 2 0 1", x, 0, 0, 3, 1, 0, 2);
  }

  /** Terms, ROWS: all orders, the last one, too. */
  private static void rowAllOrders() {
    // 0 is tired by 0 beside 1 alone, on spot 5 of 5 4 3 2 1 0 as of 0 1 2 3 4 5: the first is told
    StandRank x = Check.told("court;" + "person strength 1;".repeat(6) + "tune;tires : if who = 0 and beside = 2 then 2 else 0 end;");
    x.numbers(0, 1, 1);
    row("the first of all", x, 0, 0, 1, 0, 1, 2, 3, 4, 5);
    // 5 must be between two of which none is tired out in the first minute
    x = Check.told("court;person strength 9;person strength 9;person strength 0;person strength 0;person strength 0;person strength 2;tune;"
      + "tires : if who = 5 then 2 - beside else 1 end;");
    x.numbers(0, 1, 9);
    // 0 and 1 stand nine minutes: 0 5 1 somewhere, 2 3 4 as early as can be behind
    row("between the strong ones", x, 0, 5, 9, 0, 5, 1, 2, 3, 4);
    x = Check.told("court;person strength 0;person strength 9;person strength 0;person strength 9;person strength 0;person strength 2;tune;"
      + "tires : if who = 5 then 2 - beside else 1 end;");
    x.numbers(0, 1, 9);
    row("between the strong ones", x, 0, 5, 9, 0, 1, 5, 3, 2, 4);
    // three people: each of the six orders is the only best one for some court
    int[][] orders = {{0, 1, 2}, {0, 2, 1}, {1, 0, 2}, {1, 2, 0}, {2, 0, 1}, {2, 1, 0}};
    for (int[] o : orders) {
      if (o[0] < o[2]) {
        x = Check.told("court;" + "person strength 1;".repeat(3) + "tune;tires : if who = " + o[1] + " then 2 - beside else 0 end;");
        x.numbers(0, 1, 2);
        row("with " + o[1] + " between", x, 0, o[1], 2, o);
      }
    }
  }

  /** Terms, ROWS: all PEOPLE have SPOTS, those who SIT, too. */
  private static void rowOfThoseWhoSit() {
    StandRank x = Check.told("court;" + "person strength 4;".repeat(4) + "tune;tires : beside * 2;");
    x.numbers(0, 1, 5);
    x.sit(1);
    // 0 beside 1 alone: at the end of the row
    row("beside one that sits", x, 0, 0, 5, 0, 1, 2, 3);
    row("beside one that sits", x, 0, 3, 5, 0, 2, 1, 3);
    x.sit(2);
    row("apart from the one that stands", x, 0, 3, 5, 0, 1, 2, 3);
    x.sit(0);
    row("nobody else stands", x, 0, 3, 5, 0, 1, 2, 3);
    Check.due("P28 of one that sits", x.row(0, 0), -5);
    // on spot 0 and on the last spot those who sit, or those who stand
    x = Check.told("court;" + "person strength 9;".repeat(3) + "tune;tires : if who = 2 then 5 * beside else 0 end;");
    x.numbers(0, 1, 2);
    x.sit(0);
    row("the one that sits beside 2", x, 0, 2, 2, 1, 0, 2);
    x.change(0, 2);
    row("the one that sits beside 2", x, 0, 2, 2, 1, 0, 2);
    x = Check.told("court;" + "person strength 9;".repeat(3) + "tune;tires : if who = 2 then 10 - 5 * beside else 0 end;");
    x.numbers(0, 1, 2);
    x.sit(0);
    row("the one that stands beside 2", x, 0, 2, 1, 0, 1, 2);
    x.change(1, 0);
    row("the one that stands beside 2", x, 0, 2, 1, 0, 1, 2);
    x = Check.told("court;" + "person strength 9;".repeat(3) + "tune;tires : if who = 0 then 10 - 5 * beside else 0 end;");
    x.numbers(0, 1, 2);
    x.sit(1);
    x.change(1, 2);
    row("the one that stands beside 0", x, 0, 0, 1, 0, 2, 1);
  }

  /** Promise 29: -7: no such SPOT, behind all codes of stands(). */
  private static void rowSpotCodes() {
    for (int k : new int[] {LOW, -1, 4, 5, 6, HIGH}) {
      Twin.leaves("P29 rowSpot(0, 0, " + k + ")", x -> x.rowSpot(0, 0, k), -7);
      Twin.leaves("P29 it sits, ahead of no spot " + k, x -> x.rowSpot(0, 3, k), -5);
      Twin.leaves("P29 missing, ahead of no spot " + k, x -> x.rowSpot(3, 0, k), -6);
      Twin.leaves("P29 no tray, ahead of no spot " + k, x -> x.rowSpot(4, 0, k), -2);
      Twin.leaves("P29 no tune, ahead of no spot " + k, x -> x.rowSpot(1, 0, k), -3);
    }
    for (int n = 1; n <= 6; n++) {
      StandRank x = Check.told("court;" + "person strength 4;".repeat(n) + "tune;");
      x.numbers(0, 1, 1);
      for (int k = 0; k < n; k++) Check.due("P29 of " + n + ", spot " + k, x.rowSpot(0, 0, k), k);
      for (int k : new int[] {-1, n, n + 1}) Check.due("P29 of " + n + ", spot " + k, x.rowSpot(0, 0, k), -7);
    }
  }

  /** Promise 30: others, as bits, none to all. */
  private static void leansAnswers() {
    StandRank x = Check.told("court;" + "person strength 9;".repeat(6) + "tune;tires : 6 - up;");
    x.numbers(0, 1, 30);
    for (int p = 0; p < 6; p++) Check.due("P30 all stand: all others, of " + p, x.leans(0, p), 63 & ~(1 << p));
    x = Check.told("court;" + "person strength 9;".repeat(6) + "tune;tires : 2 - beside;");
    x.numbers(0, 1, 30);
    // those at the ends are tired by 1 and sit in minute 10
    Check.due("P30 of the first", x.leans(0, 0), 2);
    Check.due("P30 of the last", x.leans(0, 5), 16);
    Check.due("P30 none", Check.told("court;person strength 9;tune;").leans(0, 0), -6);
    x = Check.told("court;person strength 9;tune;");
    x.numbers(0, 1, 30);
    Check.due("P30 nobody else", x.leans(0, 0), 0);
    x.numbers(0, 1, 0);
    Check.due("P30 no minutes", x.leans(0, 0), 0);
  }

  /** Promise 30: others who STAND. */
  private static void leansOthers() {
    StandRank x = Check.told("court;" + "person strength 9;".repeat(4) + "tune;tires : 4 - up;");
    x.numbers(0, 1, 30);
    Check.due("P30 four", x.leans(0, 0), 14);
    x.sit(2);
    Check.due("P30 one of them sits", x.leans(0, 0), 10);
    x.sit(1);
    Check.due("P30 two of them sit", x.leans(0, 0), 8);
    x.sit(3);
    Check.due("P30 all of them sit", x.leans(0, 0), 0);
    Check.due("P30 of one that sits", x.leans(0, 3), -5);
  }

  /** Promise 30: fewer MINUTES, not as many, not more. */
  private static void leansFewer() {
    // 0 has 4, tired by 3 less beside: with 1 by 2 a minute (2 minutes), without it by 3 (1 minute)
    StandRank x = Check.told("court;person strength 4;person strength 99;tune;tires : if who = 0 then 3 - beside else 0 end;");
    int[] want = {0, 0, 2, 2};
    for (int n = 0; n < want.length; n++) {
      x.numbers(0, 1, n);
      Check.due("P30 of " + n + " minutes", x.leans(0, 0), want[n]);
    }
    x.wine(0, 1);
    // 5: with it 2 minutes, without it 1
    Check.due("P30 fewer by one", x.leans(0, 0), 2);
    x = Check.told("court;person strength 1;person strength 99;tune;tires : if who = 0 then 3 - beside else 0 end;");
    x.numbers(0, 1, 5);
    Check.due("P30 none in any case", x.leans(0, 0), 0);
    x = Check.told("court;person strength 9;person strength 99;tune;tires : if who = 0 then 1 + beside else 0 end;");
    x.numbers(0, 1, 20);
    Check.due("P30 more", x.leans(0, 0), 0);
  }

  /** Promise 31: -2: what, ahead of all others. */
  private static void chairsWhat() {
    for (int what : new int[] {LOW, -1, 2, 3, HIGH}) {
      Twin.leaves("P31 what " + what, x -> x.chairs(0, 0, what), -2);
      Twin.leaves("P31 what " + what + ", ahead of missing", x -> x.chairs(3, 0, what), -2);
      Twin.leaves("P31 what " + what + ", ahead of no tune", x -> x.chairs(1, 0, what), -2);
      Twin.leaves("P31 what " + what + ", ahead of sitting", x -> x.chairs(0, 3, what), -2);
      Twin.leaves("P31 what " + what + ", no tray", x -> x.chairs(4, 0, what), -2);
    }
    Twin.leaves("P31 too many, ahead of sitting", () -> {
      StandRank x = Twin.busy();
      x.numbers(0, 1, 31);
      return x;
    }, x -> x.chairs(0, 3, 1), -4);
  }

  private static void chairs(String label, StandRank x, int p, int set) {
    Check.due("P31 " + label + ", how many", x.chairs(0, p, 0), Integer.bitCount(set));
    Check.due("P31 " + label + ", whose", x.chairs(0, p, 1), set);
  }

  /** Promise 31: 0 to 5 others. */
  private static void chairsAnswers() {
    StandRank x = Check.told("court;person strength 1;person strength 2;person strength 3;person strength 4;person strength 5;person strength 6;tune;");
    x.numbers(0, 1, 9);
    for (int p = 0; p < 6; p++) chairs("all who are stronger, of " + p, x, p, 63 & ~((2 << p) - 1));
    x = Check.told("court;" + "person strength 9;".repeat(6) + "tune;");
    x.numbers(0, 1, 0);
    for (int p = 0; p < 6; p++) chairs("all stand: those with lesser numbers, of " + p, x, p, (1 << p) - 1);
    x.numbers(0, 1, 30);
    for (int p = 0; p < 6; p++) chairs("all sit in one minute: those with lesser numbers, of " + p, x, p, (1 << p) - 1);
    x = Check.told("court;person strength 0;tune;");
    x.numbers(0, 1, 3);
    chairs("nobody else", x, 0, 0);
  }

  /** Terms, CHAIRS: others who STAND. */
  private static void chairsOthers() {
    StandRank x = Check.told("court;" + "person strength 9;".repeat(6) + "tune;");
    x.numbers(0, 1, 3);
    x.sit(0);
    x.sit(3);
    chairs("two sit", x, 5, 2 + 4 + 16);
    chairs("two sit", x, 4, 2 + 4);
    chairs("two sit", x, 1, 0);
    Check.due("P31 of one that sits", x.chairs(0, 0, 0), -5);
  }

  /** Terms, CHAIRS: the fewest, of like ones the least set as bits. */
  private static void chairsLeastSet() {
    // 3 is tired out by more than two others
    StandRank x = Check.told("court;person strength 0;person strength 0;person strength 0;person strength 0;tune;tires : if who = 3 then up - 3 else if up = 4 then 0 else 1 end end;");
    x.numbers(0, 1, 1);
    chairs("any one of three: the least", x, 3, 1);
    x.sit(0);
    chairs("nobody need", x, 3, 0);
    x = Check.told("court;" + "person strength 0;".repeat(5) + "tune;tires : if who = 4 then up - 3 else if up > 3 then 0 else 1 end end;");
    x.numbers(0, 1, 1);
    chairs("any two of four: the least", x, 4, 3);
    // row 0 1 3 2: 2 is spared when both 0 and 1 sit, or 3 alone, which is beside it
    x = Check.told("court;" + "person strength 0;".repeat(4) + "tune;tires : if who = 2 and [ beside = 0 or up < 3 ] then 0 else 1 end;");
    x.numbers(0, 1, 1);
    x.change(2, 3);
    chairs("one is fewer than two, though its bits are more", x, 2, 8);
    x.sit(0);
    chairs("one of 1 and 3: the least", x, 2, 2);
  }

  /** Terms, CHAIRS: SITTING down now, so that behind the NIGHT the PLACE is 0. */
  private static void chairsBehindTheNight() {
    StandRank x = Check.told("court;person strength 5;person strength 2;tune;");
    for (int n = 0; n < 7; n++) {
      x.numbers(0, 1, n);
      chairs("behind " + n + " minutes, of 1", x, 1, 1);
      chairs("behind " + n + " minutes, of 0", x, 0, 0);
    }
    // 0 sits in minute 1 unless 1 sits now; behind none it is ahead by its number
    x = Check.told("court;person strength 0;person strength 0;tune;tires : if who = 0 then beside else 0 end;");
    int[] set = {0, 2, 2};
    for (int n = 0; n < set.length; n++) {
      x.numbers(0, 1, n);
      chairs("behind " + n + " minutes", x, 0, set[n]);
    }
    Twin.leaves("P31 asks", y -> y.chairs(0, 1, 1), 1);
    Twin.leaves("P31 asks", y -> y.chairs(0, 0, 0), 0);
  }
}
