/** Promises 37 and 38 (chance, chancellor) and the Term CHANCE: each code, least and most. */
public final class ChanceBoundsTest {
  private static final int LOW = Integer.MIN_VALUE;
  private static final int HIGH = Integer.MAX_VALUE;

  public static void main(String[] args) {
    chancePeople();
    chanceWhat();
    chanceN();
    noMinutes();
    lowestTerms();
    farNumbers();
    sureAndNever();
    allOddsNone();
    someOddsNone();
    chancellorN();
    chancellorNobody();
    chancellorFirst();
    asksOnly();
    Check.end();
  }

  /** Promise 37: -2: the PERSON, ahead of -3. */
  private static void chancePeople() {
    for (int p : new int[] {LOW, -1, 4, 5, HIGH}) for (int n : new int[] {-1, 0, 6, 7}) {
      Twin.leaves("P37 chance(" + p + ", " + n + ", 0)", x -> x.chance(p, n, 0), -2);
      Twin.leaves("P37 chance(" + p + ", " + n + ", 1)", x -> x.chance(p, n, 1), -2);
    }
    for (int p = 0; p < 4; p++) Check.due("P37 of those who sit, too, " + p, Twin.busy().chance(p, 0, 1), 1);
  }

  /** Promise 37: -2: what, ahead of -3. */
  private static void chanceWhat() {
    for (int what : new int[] {LOW, -1, 2, 3, HIGH}) for (int n : new int[] {-1, 0, 6, 7}) {
      Twin.leaves("P37 chance(0, " + n + ", " + what + ")", x -> x.chance(0, n, what), -2);
    }
  }

  /** Promise 37: -3: n (0 to 6). */
  private static void chanceN() {
    for (int n : new int[] {LOW, -1, 7, 8, HIGH}) for (int what = 0; what < 2; what++) {
      int asked = what;
      Twin.leaves("P37 chance(0, " + n + ", " + what + ")", x -> x.chance(0, n, asked), -3);
      Twin.leaves("P37 of one that sits, chance(3, " + n + ", " + what + ")", x -> x.chance(3, n, asked), -3);
    }
    // 0 is tired by tune 0 alone, half of all minutes, and sits by the first of these
    StandRank x = Check.told("court;person strength 0;person strength 0;tune;tune;tires : if who = 0 and tune = 0 then 1 else 0 end;");
    for (int n = 0; n <= 6; n++) {
      likely("half each, " + n, x, 0, n, 1, 1L << n);
      likely("the other one, " + n, x, 1, n, (1L << n) - 1, n == 0 ? 1 : 1L << n);
    }
  }

  private static void likely(String label, StandRank x, int p, int n, long above, long below) {
    Check.due("P37 " + label + ", above", x.chance(p, n, 0), above);
    Check.due("P37 " + label + ", below", x.chance(p, n, 1), below);
  }

  /** Terms, CHANCE: no MINUTES: who has PLACE 0 now. */
  private static void noMinutes() {
    StandRank x = Check.told("court;person strength 0;person strength 0;person strength 0;tune odds 7;");
    for (int p = 0; p < 3; p++) likely("now, of " + p, x, p, 0, p == 0 ? 1 : 0, 1);
    x.sit(0);
    for (int p = 0; p < 3; p++) likely("now, of " + p, x, p, 0, p == 1 ? 1 : 0, 1);
    x.sit(1);
    x.sit(2);
    for (int p = 0; p < 3; p++) likely("all sit, of " + p, x, p, 0, p == 2 ? 1 : 0, 1);
    for (int p = 0; p < 3; p++) likely("all sit, for good, of " + p, x, p, 6, p == 2 ? 1 : 0, 1);
  }

  /** Terms, CHANCE: by their odds each, in lowest terms. */
  private static void lowestTerms() {
    for (int a = 0; a <= 9; a++) for (int b = 1; b <= 9; b++) {
      StandRank x = Check.told("court;person strength 0;person strength 0;tune odds " + a + ";tune odds " + b + ";tires : if who = tune then 1 else 0 end;");
      // tune 0 seats 0, tune 1 seats 1
      int common = gcd(b, a + b);
      likely("odds " + a + " and " + b, x, 0, 1, b / common, (a + b) / common);
      int other = gcd(a, a + b);
      likely("odds " + a + " and " + b, x, 1, 1, a / other, (a + b) / other);
    }
  }

  private static int gcd(int a, int b) { return b == 0 ? a : gcd(b, a % b); }

  /** Terms, CHANCE: as many as 36 to the sixth, in lowest terms 35 to the sixth. */
  private static void farNumbers() {
    String law = "tires : if who = 0 and tune < 3 then 0 else if who = 0 then 1 else 0 end end;";
    StandRank x = Check.told("court;person strength 0;person strength 0;tune odds 9;tune odds 9;tune odds 9;tune odds 9;" + law);
    long[] four = {1, 4, 16, 64, 256, 1024, 4096};
    long[] three = {1, 3, 9, 27, 81, 243, 729};
    for (int n = 0; n <= 6; n++) likely("of 36, " + n, x, 0, n, three[n], four[n]);
    for (int n = 1; n <= 6; n++) likely("of 36, " + n, x, 1, n, four[n] - three[n], four[n]);
    x = Check.told("court;person strength 0;person strength 0;tune odds 9;tune odds 9;tune odds 9;tune odds 8;" + law);
    likely("27 of 35, six times", x, 0, 6, 387420489L, 1838265625L);
    likely("all but these", x, 1, 6, 1838265625L - 387420489L, 1838265625L);
    x = Check.told("court;person strength 0;person strength 0;tune odds 9;tune odds 9;tune odds 9;tune odds 4;" + law);
    likely("27 of 31, six times", x, 0, 6, 387420489L, 887503681L);
  }

  /** Promise 37: 0 by 1 and 1 by 1. */
  private static void sureAndNever() {
    StandRank x = Check.told("court;person strength 0;person strength 9;tune odds 4;tune odds 6;");
    for (int n = 1; n <= 6; n++) {
      likely("never, " + n, x, 0, n, 0, 1);
      likely("sure, " + n, x, 1, n, 1, 1);
    }
    x = Check.told("court;person strength 9;tune odds 9;tires : 99;");
    for (int n = 0; n <= 6; n++) likely("one person, " + n, x, 0, n, 1, 1);
  }

  /** Terms, CHANCE: if all odds are 0, no MINUTE is played. */
  private static void allOddsNone() {
    for (String tunes : new String[] {"", "tune odds 0;", "tune odds 0;tune odds 0;tune odds 0;tune odds 0;"}) {
      StandRank x = Check.told("court;person strength 0;person strength 9;" + tunes);
      for (int n = 0; n <= 6; n++) {
        likely("all odds are 0, <" + tunes + ">, " + n, x, 0, n, 1, 1);
        likely("all odds are 0, <" + tunes + ">, " + n, x, 1, n, 0, 1);
        Check.due("P38 all odds are 0, " + n, x.chancellor(n), 0);
      }
      Check.due("P37 all odds are 0: -3", x.chance(0, 7, 0), -3);
      Check.due("P38 all odds are 0: -3", x.chancellor(7), -3);
    }
  }

  /** Terms, CHANCE: a TUNE of odds 0 is not played, if others have odds. */
  private static void someOddsNone() {
    StandRank x = Check.told("court;person strength 0;person strength 0;tune odds 0;tune odds 1;tune odds 0;tires : if tune = who + 1 then 1 else 0 end;");
    // tune 1 seats 0, tune 2 would seat 1
    for (int n = 1; n <= 6; n++) likely("tune 1 alone, " + n, x, 1, n, 1, 1);
    likely("none is played", x, 1, 0, 0, 1);
  }

  /** Promise 38: -3: n (0 to 6), ahead of NONE. */
  private static void chancellorN() {
    for (int n : new int[] {LOW, -1, 7, 8, HIGH}) {
      Twin.leaves("P38 chancellor(" + n + ")", x -> x.chancellor(n), -3);
      Check.due("P38 chancellor(" + n + "), no people", new StandRank().chancellor(n), -3);
    }
    // 1 is tired by nothing; 0 sits in minute 4 at last
    StandRank x = Check.told("court;person strength 3;person strength 3;tune;tires : if who = 0 then 1 else 0 end;");
    int[] want = {0, 0, 0, 0, 1, 1, 1};
    for (int n = 0; n <= 6; n++) Check.due("P38 chancellor(" + n + ")", x.chancellor(n), want[n]);
    for (int ahead = 0; ahead <= 6; ahead++) for (int changes = 0; changes <= 5; changes++) for (int n = 0; n <= 6; n++) {
      StandRank y = Check.told("court;person strength 3;person strength 3;tune;tires : if who = 0 then 1 else 0 end;");
      y.chancellor(ahead);
      for (int k = 0; k < changes; k++) y.play(0);
      Check.due("P38 chancellor(" + n + ") behind chancellor(" + ahead + ") and " + changes + " minutes", y.chancellor(n), n + changes < 4 ? 0 : 1);
    }
    x = Check.told("court;person strength 5;person strength 5;tune;tires : if who = 0 then 1 else 0 end;");
    Check.due("P38 six minutes", x.chancellor(6), 1);
    Check.due("P38 five minutes", x.chancellor(5), 0);
  }

  /** Promise 38: NONE: no PEOPLE. */
  private static void chancellorNobody() {
    for (int n = 0; n <= 6; n++) {
      Check.due("P38 no court, " + n, new StandRank().chancellor(n), -1);
      Check.due("P38 tunes alone, " + n, Check.told("court;tune odds 9;").chancellor(n), -1);
      Check.due("P38 one person, " + n, Check.told("court;person strength 0;tune odds 9;").chancellor(n), 0);
    }
  }

  /** Promise 38: the likeliest, the first. */
  private static void chancellorFirst() {
    String law = "tires : if who = tune then 0 else 1 end;";
    int[][] odds = {{1, 1, 1, 0}, {1, 2, 1, 1}, {1, 2, 2, 1}, {1, 1, 3, 2}, {0, 0, 3, 2}, {9, 9, 9, 3}, {8, 9, 9, 1}, {1, 1, 9, 2}};
    int[] want = {0, 1, 1, 2, 2, 0, 1, 2};
    for (int k = 0; k < odds.length; k++) {
      StringBuilder s = new StringBuilder("court;" + "person strength 0;".repeat(3));
      for (int t = 0; t < 3; t++) s.append("tune odds ").append(odds[k][t]).append(';');
      for (int n = 1; n <= 6; n++) Check.due("P38 odds " + k + ", " + n, Check.told(s + law).chancellor(n), want[k]);
    }
    StandRank x = Check.told("court;" + "person strength 0;".repeat(5) + "person strength 1;tune;");
    Check.due("P38 the last of six", x.chancellor(1), 5);
    Check.due("P38 the first of six", x.chancellor(0), 0);
  }

  /** Calls that ask change nothing. */
  private static void asksOnly() {
    Twin.leaves("P37 asks", x -> x.chance(0, 6, 0), Twin.busy().chance(0, 6, 0));
    Twin.leaves("P37 asks", x -> x.chance(1, 3, 1), Twin.busy().chance(1, 3, 1));
    Twin.leaves("P38 asks", x -> x.chancellor(6), 0);
  }
}
