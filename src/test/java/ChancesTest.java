/** Promises 37 and 38: chance, chancellor. */
public final class ChancesTest {
  public static void main(String[] args) {
    codes();
    fractions();
    noOdds();
    chancellors();
    Check.end();
  }

  private static void codes() {
    StandRank x = new StandRank();
    Check.due("38 nobody", x.chancellor(0), -1);
    Check.due("38 nobody", x.chancellor(6), -1);
    Check.due("38 n, ahead of nobody", x.chancellor(7), -3);
    Check.due("38 n", x.chancellor(-1), -3);
    Check.due("37 nobody", x.chance(0, 0, 0), -2);
    x = Check.told("court;person strength 4;tune;");
    Check.due("37 person", x.chance(1, 9, 0), -2);
    Check.due("37 person", x.chance(-1, 0, 0), -2);
    Check.due("37 what", x.chance(0, 9, 2), -2);
    Check.due("37 what", x.chance(0, 0, -1), -2);
    Check.due("37 n", x.chance(0, 7, 0), -3);
    Check.due("37 n", x.chance(0, -1, 1), -3);
  }

  private static void likely(StandRank x, int p, int n, long above, long below) {
    Check.due("37 chance(" + p + ", " + n + ", 0)", x.chance(p, n, 0), above);
    Check.due("37 chance(" + p + ", " + n + ", 1)", x.chance(p, n, 1), below);
  }

  private static void fractions() {
    // tune 0 seats 0, tune 1 seats 1, tune 2 nobody
    StandRank x = Check.told("court;person strength 0;person strength 0;tune odds 2;tune odds 3;tune odds 1;"
      + "tires : if who = tune then 1 else 0 end;");
    likely(x, 0, 0, 1, 1);
    likely(x, 1, 0, 0, 1);
    likely(x, 0, 1, 2, 3);
    likely(x, 1, 1, 1, 3);
    // 0 is the last if the first of tunes 0, 1 is 1, or there is none: 1/36 + 3/6 + 1/6 * 3/6
    likely(x, 0, 2, (1 + 18 + 3) / 2, 36 / 2);
    x.play(2);
    likely(x, 0, 1, 2, 3);
    x.sit(0);
    likely(x, 0, 6, 0, 1);
    likely(x, 1, 6, 1, 1);
    x.sit(1);
    likely(x, 1, 6, 1, 1);
    likely(x, 0, 6, 0, 1);
    x = Check.told("court;person strength 0;person strength 0;tune odds 9;tune odds 9;tune odds 9;tune odds 8;tires : if who = 0 and tune = 3 then 1 else 0 end;");
    // all but 27/35 to the sixth: below is 35 to the sixth
    likely(x, 1, 6, 1838265625L - 387420489L, 1838265625L);
    likely(x, 0, 6, 387420489L, 1838265625L);
    x = Check.told("court;person strength 0;person strength 0;tune odds 0;tune odds 5;tires : if tune = who then 1 else 0 end;");
    likely(x, 0, 6, 1, 1);
    likely(x, 1, 6, 0, 1);
    Check.due("37 nothing changes", x.count(5), 0);
  }

  private static void noOdds() {
    StandRank x = Check.told("court;person strength 0;person strength 1;tune odds 0;");
    likely(x, 0, 6, 1, 1);
    likely(x, 1, 6, 0, 1);
    Check.due("38 no minute", x.chancellor(6), 0);
    x = Check.told("court;person strength 0;person strength 1;");
    likely(x, 0, 3, 1, 1);
    x = Check.told("court;person strength 0;person strength 1;tune;");
    likely(x, 0, 1, 0, 1);
    likely(x, 1, 1, 1, 1);
  }

  private static void chancellors() {
    StandRank x = Check.told("court;person strength 0;person strength 0;person strength 0;tune odds 2;tune odds 3;tune odds 1;"
      + "tires : if who = tune then 0 else 1 end;");
    Check.due("38 no minute", x.chancellor(0), 0);
    Check.due("38 one minute", x.chancellor(1), 1);
    x = Check.told("court;person strength 0;person strength 0;person strength 0;tune odds 1;tune odds 2;tune odds 2;"
      + "tires : if who = tune then 0 else 1 end;");
    Check.due("38 the first", x.chancellor(3), 1);
    x.sit(1);
    // tune 1 seats 0 and 2 in one minute
    Check.due("38 from now on", x.chancellor(3), 0);
    x.undo(1);
    Check.due("38 as it was", x.chancellor(3), 1);
    Check.tell(x, "court;person strength 0;person strength 0;person strength 9;tune;");
    Check.due("38 behind court()", x.chancellor(3), 2);
    Check.due("38 another n", x.chancellor(0), 0);
    Check.due("38 again", x.chancellor(3), 2);
    x = Check.told("court;" + "person strength 0;".repeat(5) + "person strength 1;tune;");
    Check.due("38 of six", x.chancellor(1), 5);
  }
}
