/** Promises 23 to 27 (alone, aloneBy, ways, sits, sitsBy) and the Term MUSIC: each code, least and most. */
public final class MusicBoundsTest {
  private static final int LOW = Integer.MIN_VALUE;
  private static final int HIGH = Integer.MAX_VALUE;

  public static void main(String[] args) {
    aloneCodes();
    aloneLengths();
    aloneNone();
    aloneFirst();
    aloneByCodes();
    aloneByPlaces();
    waysCodes();
    waysAnswers();
    waysNoTunes();
    sitsCodes();
    sitsSizes();
    sitsPeople();
    sitsLengths();
    sitsOneMinute();
    sitsAsTheySat();
    sitsByCodes();
    sitsByPlaces();
    asksOnly();
    Check.end();
  }

  /** Promise 23: -2; -5: it SITS now. */
  private static void aloneCodes() {
    for (int p : new int[] {LOW, -1, 4, 5, 6, HIGH}) Twin.leaves("P23 alone(" + p + ")", x -> x.alone(p), -2);
    for (int p : new int[] {2, 3}) Twin.leaves("P23 it sits, " + p, x -> x.alone(p), -5);
    Check.due("P23 no people", new StandRank().alone(0), -2);
    StandRank x = Check.told("court;person strength 1;");
    x.sit(0);
    Check.due("P23 it sits: not alone", x.alone(0), -5);
  }

  /** Terms, MUSIC: as few as can be (7 at most): 0 to 7, then none. */
  private static void aloneLengths() {
    for (int strength = 0; strength <= 8; strength++) {
      StandRank x = Check.told("court;person strength 50;person strength " + strength + ";tune;");
      int want = strength <= 6 ? strength + 1 : -1;
      Check.due("P23 the other one sits in minute " + (strength + 1), x.alone(0), want);
      Check.due("P24 the seventh", x.aloneBy(0, 6), want == 7 ? 0 : -1);
      Check.due("P41 into a tray of none", lists(x, 0), want < 0 ? -5 : 0);
      Check.due("P41 into a tray of forty", lists(x, 40), want < 0 ? -5 : want);
    }
    StandRank x = Check.told("court;person strength 50;");
    Check.due("P23 one alone already: 0", x.alone(0), 0);
    x = Check.told("court;person strength 50;person strength 50;tune;");
    x.sit(1);
    Check.due("P23 alone already: 0", x.alone(0), 0);
    x.undo(1);
    x.sit(0);
    Check.due("P23 the other one alone: 0", x.alone(1), 0);
  }

  private static int lists(StandRank x, int places) {
    x.numbers(0, 1, places);
    return x.lists(0, 0);
  }

  /** Promise 23: NONE: none does. */
  private static void aloneNone() {
    Check.due("P23 both stay", Check.told("court;person strength 5;person strength 5;tune;tires : 0;").alone(0), -1);
    Check.due("P23 both sit in one minute", Check.told("court;person strength 5;person strength 5;tune;").alone(0), -1);
    Check.due("P23 it sits first", Check.told("court;person strength 4;person strength 5;tune;").alone(0), -1);
    Check.due("P23 no tunes", Check.told("court;person strength 4;person strength 5;").alone(0), -1);
    Check.due("P24 none does", Check.told("court;person strength 4;person strength 5;").aloneBy(0, 0), -1);
    // alone behind the third minute, but only then: the shortest is told
    StandRank x = Check.told("court;person strength 3;person strength 2;tune;");
    Check.due("P23 it sits in the next minute", x.alone(0), 3);
    Check.due("P25 in four minutes no more", x.ways(0, 4), 0);
  }

  /** Terms, MUSIC: of like ones the first TUNE by TUNE. */
  private static void aloneFirst() {
    // tune t tires 1 by t; 1 sits when it is tired by more than 5
    StandRank x = Check.told("court;person strength 99;person strength 5;tune;tune;tune;tune;tires : if who = 0 then 0 else tune end;");
    music(x, 0, 3, 3);
    x.wine(1, 1);
    // more than 6: 0 is not used, 1 3 3 is ahead of 2 2 3, 3 1 3
    music(x, 0, 1, 3, 3);
    x.wine(1, 2);
    // more than 8: all three
    music(x, 0, 3, 3, 3);
    x.wine(1, 1);
    music(x, 0, 1, 3, 3, 3);
    // all tunes alike: the first one
    x = Check.told("court;person strength 99;person strength 2;tune;tune;tune;tune;tires : 1;");
    music(x, 0, 0, 0, 0);
    // only the last tune does
    x = Check.told("court;person strength 99;person strength 6;tune;tune;tune;tune;tires : if who = 1 and tune = 3 then 1 else 0 end;");
    music(x, 0, 3, 3, 3, 3, 3, 3, 3);
    // the longer one would begin with a lesser tune
    x = Check.told("court;person strength 99;person strength 1;tune;tune;tires : if who = 0 then 0 else 1 + tune end;");
    music(x, 0, 1);
  }

  private static void music(StandRank x, int p, int... tunes) {
    Check.due("P23 alone(" + p + ")", x.alone(p), tunes.length);
    for (int i = 0; i < tunes.length; i++) Check.due("P24 aloneBy(" + p + ", " + i + ")", x.aloneBy(p, i), tunes[i]);
    Check.due("P24 not so many", x.aloneBy(p, tunes.length), -1);
  }

  /** Promise 24: -2; -5; -3: i is below 0; in this order, ahead of NONE. */
  private static void aloneByCodes() {
    for (int i : new int[] {LOW, -1, 0, 7, HIGH}) {
      for (int p : new int[] {LOW, -1, 4, HIGH}) Twin.leaves("P24 aloneBy(" + p + ", " + i + ")", x -> x.aloneBy(p, i), -2);
      Twin.leaves("P24 it sits, aloneBy(3, " + i + ")", x -> x.aloneBy(3, i), -5);
    }
    for (int i : new int[] {LOW, -2, -1}) {
      Twin.leaves("P24 aloneBy(0, " + i + ")", x -> x.aloneBy(0, i), -3);
      Check.due("P24 ahead of none does", Check.told("court;person strength 4;person strength 5;").aloneBy(0, i), -3);
      Check.due("P24 of one alone already", Check.told("court;person strength 4;").aloneBy(0, i), -3);
    }
  }

  /** Promise 24: the i-th, from 0 on; NONE: not so many. */
  private static void aloneByPlaces() {
    StandRank x = Check.told("court;person strength 99;person strength 8;tune;tune;tires : if who = 0 then 0 else if minute = 1 then 3 - 2 * tune else 1 + tune end end;");
    // minutes tire it by 2 3 2 2 at most: by 9 in four
    int length = x.alone(0);
    Check.due("P24 how many", length, 4);
    int[] want = {1, 0, 1, 1};
    for (int i = 0; i < 4; i++) Check.due("P24 aloneBy(0, " + i + ")", x.aloneBy(0, i), want[i]);
    for (int i : new int[] {4, 5, 6, 7, 8, 1000, HIGH}) Check.due("P24 aloneBy(0, " + i + ")", x.aloneBy(0, i), -1);
    Check.due("P24 of none", Check.told("court;person strength 4;").aloneBy(0, 0), -1);
    Check.due("P24 of none", Check.told("court;person strength 4;").aloneBy(0, HIGH), -1);
  }

  /** Promise 25: n 0 to 7; -2; -5; -3: n. */
  private static void waysCodes() {
    for (int n : new int[] {LOW, -1, 0, 7, 8, HIGH}) {
      for (int p : new int[] {LOW, -1, 4, HIGH}) Twin.leaves("P25 ways(" + p + ", " + n + ")", x -> x.ways(p, n), -2);
      Twin.leaves("P25 it sits, ways(3, " + n + ")", x -> x.ways(3, n), -5);
    }
    for (int n : new int[] {LOW, -1, 8, 9, HIGH}) Twin.leaves("P25 ways(0, " + n + ")", x -> x.ways(0, n), -3);
    for (int n = 0; n <= 7; n++) {
      int asked = n;
      long ways = Twin.busy().ways(0, n);
      Check.due("P25 ways(0, " + n + ") is asked", ways >= 0 ? 1 : 0, 1);
      Twin.leaves("P25 ways(0, " + n + ") asks", x -> x.ways(0, asked), ways);
    }
  }

  /** Promise 25: in how many ways of just n MINUTES, all to none. */
  private static void waysAnswers() {
    for (int tunes = 1; tunes <= 4; tunes++) {
      StandRank x = Check.told("court;person strength 99;" + "tune;".repeat(tunes) + "tires : 0;");
      int all = 1;
      for (int n = 0; n <= 7; n++, all *= tunes) Check.due("P25 alone always, of " + tunes + " tunes, " + n, x.ways(0, n), all);
    }
    // each minute of tune 1 tires 1 by 1: at least three of n
    StandRank x = Check.told("court;person strength 99;person strength 2;tune;tune;tires : if who = 0 then 0 else tune end;");
    int[] want = {0, 0, 0, 1, 5, 16, 42, 99};
    for (int n = 0; n <= 7; n++) Check.due("P25 three of " + n, x.ways(0, n), want[n]);
    // just behind them: it must stand, too
    x = Check.told("court;person strength 4;person strength 2;tune;");
    int[] just = {0, 0, 0, 1, 1, 0, 0, 0};
    for (int n = 0; n <= 7; n++) Check.due("P25 just " + n, x.ways(0, n), just[n]);
    for (int n = 0; n <= 7; n++) Check.due("P25 never, " + n, x.ways(1, n), 0);
    // tune t spares person t: each of six by its own tunes alone
    x = Check.told("court;" + "person strength 1;".repeat(4) + "tune;tune;tune;tune;tires : if who = tune then 0 else 1 end;");
    for (int p = 0; p < 4; p++) {
      Check.due("P25 one minute, of " + p, x.ways(p, 1), 0);
      Check.due("P25 two minutes, of " + p, x.ways(p, 2), 1);
      Check.due("P25 three minutes, of " + p, x.ways(p, 3), 1 + 3 * 3);
      Check.due("P23 two minutes, of " + p, x.alone(p), 2);
      Check.due("P24 by its own, of " + p, x.aloneBy(p, 1), p);
    }
    x = Check.told("court;" + "person strength 0;".repeat(5) + "person strength 1;tune;");
    Check.due("P25 the sixth", x.ways(5, 1), 1);
    Check.due("P25 the sixth, no more", x.ways(5, 2), 0);
  }

  /** Promise 25: without TUNES there is the way of no MINUTES alone. */
  private static void waysNoTunes() {
    StandRank x = Check.told("court;person strength 5;");
    for (int n = 0; n <= 7; n++) Check.due("P25 no tunes, " + n, x.ways(0, n), n == 0 ? 1 : 0);
    Check.due("P25 no tunes, 8", x.ways(0, 8), -3);
    x = Check.told("court;person strength 5;person strength 5;");
    Check.due("P25 not alone, 0", x.ways(0, 0), 0);
  }

  /** Promise 26: -2: the TRAY; -6. */
  private static void sitsCodes() {
    for (int t : new int[] {LOW, -1, 4, 5, HIGH}) Twin.leaves("P26 sits(" + t + ")", x -> x.sits(t), -2);
    Twin.leaves("P26 missing", x -> x.sits(3), -6);
    for (int t = 0; t < 4; t++) {
      StandRank x = Check.told("court;person strength 1;tune;");
      Check.tray(x, t, 0);
      Check.due("P26 sits(" + t + ")", x.sits(t), 2);
    }
    Check.due("P26 no people, missing", new StandRank().sits(0), -6);
  }

  /** Promise 26: -4: not 1 to 6 numbers, ahead of -3. */
  private static void sitsSizes() {
    for (int n : new int[] {0, 7, 8, 40}) {
      Twin.leaves("P26 " + n + " numbers", () -> with(n, 0), x -> x.sits(0), -4);
      if (n > 0) Twin.leaves("P26 " + n + " numbers, ahead of no person", () -> with(n, 77), x -> x.sits(0), -4);
    }
    StandRank x = Check.told("court;" + "person strength 0;".repeat(6) + "tune;tires : if minute < who then 0 else 1 end;");
    for (int n = 1; n <= 6; n++) {
      x.numbers(0, 0, n);
      for (int i = 0; i < n; i++) x.write(0, i, i);
      Check.due("P26 " + n + " numbers", x.sits(0), n);
    }
    Check.due("P26 none of none", sitsOf(new StandRank()), -4);
  }

  private static int sitsOf(StandRank x, long... people) {
    Check.tray(x, 0, people);
    return x.sits(0);
  }

  private static StandRank with(int n, long last) {
    StandRank x = Twin.busy();
    x.numbers(0, 3, n);
    if (n > 0) x.write(0, n - 1, last);
    return x;
  }

  /** Promise 26: -3: one is no PERSON, stands twice. */
  private static void sitsPeople() {
    for (long v : new long[] {-1, 4, 5, 6, 1L << 32, (1L << 32) + 1, -1L << 32, Long.MIN_VALUE, Long.MAX_VALUE}) {
      Twin.leaves("P26 no person " + v, () -> with(1, v), x -> x.sits(0), -3);
      Check.due("P26 no person " + v + ", the first", sitsOf(Twin.busy(), v, 0), -3);
      Check.due("P26 no person " + v + ", the last", sitsOf(Twin.busy(), 0, 1, v), -3);
    }
    Twin.leaves("P26 twice, 0", () -> with(2, 0), x -> x.sits(0), -3);
    Check.due("P26 twice, 3", sitsOf(Twin.busy(), 3, 0, 3), -3);
    Check.due("P26 twice, the last two", sitsOf(Twin.busy(), 1, 0, 3, 3), -3);
    Check.due("P26 twice, 0 of six", sitsOf(Twin.busy(), 0, 1, 2, 3, 3, 0), -3);
    Check.due("P26 four of them", sitsOf(Twin.busy(), 0, 1, 2, 3) >= -1 ? 1 : 0, 1);
    Check.due("P26 no people", sitsOf(new StandRank(), 0), -3);
    StandRank x = Check.told("court;" + "person strength 0;".repeat(6) + "tune;");
    Check.due("P26 the sixth", sitsOf(x, 5), 1);
    Check.due("P26 a seventh", sitsOf(x, 6), -3);
    Check.due("P26 the sixth twice", sitsOf(x, 5, 5), -3);
  }

  /** Terms, MUSIC: as few as can be (7 at most). */
  private static void sitsLengths() {
    for (int strength = 0; strength <= 8; strength++) {
      StandRank x = Check.told("court;person strength " + strength + ";tune;");
      int want = strength <= 6 ? strength + 1 : -1;
      Check.due("P26 it sits in minute " + (strength + 1), sitsOf(x, 0), want);
      Check.due("P27 the seventh", x.sitsBy(0, 6), want == 7 ? 0 : -1);
    }
    StandRank x = Check.told("court;person strength 4;");
    Check.due("P26 no tunes", sitsOf(x, 0), -1);
    x.sit(0);
    Check.due("P26 it sits now: 0", sitsOf(x, 0), 0);
    // tune t tires 0 by t: the first of like ones
    x = Check.told("court;person strength 4;tune;tune;tune;tune;tires : tune;");
    order(x, new int[] {0}, 2, 3);
    x.wine(0, 2);
    order(x, new int[] {0}, 1, 3, 3);
    // 1 must sit ahead of 0: tune 1 tires it alone
    x = Check.told("court;person strength 0;person strength 1;tune;tune;tires : if who = tune then 1 else 0 end;");
    order(x, new int[] {0}, 0);
    order(x, new int[] {1}, 1, 1);
    order(x, new int[] {0, 1}, 0, 1, 1);
    order(x, new int[] {1, 0}, 1, 1, 0);
  }

  private static void order(StandRank x, int[] people, int... tunes) {
    long[] v = new long[people.length];
    for (int i = 0; i < v.length; i++) v[i] = people[i];
    Check.due("P26 sits", sitsOf(x, v), tunes.length);
    for (int i = 0; i < tunes.length; i++) Check.due("P27 sitsBy(0, " + i + ")", x.sitsBy(0, i), tunes[i]);
    Check.due("P27 not so many", x.sitsBy(0, tunes.length), -1);
  }

  /** Terms, MUSIC: not in one MINUTE with the next one in the TRAY. */
  private static void sitsOneMinute() {
    StandRank x = Check.told("court;person strength 0;person strength 0;person strength 1;person strength 2;tune;");
    Check.due("P26 in one minute", sitsOf(x, 0, 1), -1);
    Check.due("P26 in one minute", sitsOf(x, 1, 0), -1);
    Check.due("P26 in the next one", sitsOf(x, 0, 2), 2);
    Check.due("P26 in the next ones", sitsOf(x, 1, 2, 3), 3);
    Check.due("P26 the other way", sitsOf(x, 2, 1), -1);
    Check.due("P26 in one minute, further on", sitsOf(x, 0, 1, 3), -1);
    Check.due("P26 others don't matter", sitsOf(x, 3), 3);
  }

  /** Terms, MUSIC: those who SIT now as they SAT down; of one's own: apart from all others. */
  private static void sitsAsTheySat() {
    StandRank x = Check.told("court;person strength 0;person strength 0;person strength 9;person strength 9;person strength 0;tune;");
    x.sit(4);
    x.play(0);
    x.sit(2);
    x.sit(3);
    // 4 of its own, 0 and 1 in minute 1, 2 and 3 of their own behind it
    Check.due("P26 0 and 1 in one minute", sitsOf(x, 0, 1), -1);
    Check.due("P26 4 ahead of 0", sitsOf(x, 4, 0), 0);
    Check.due("P26 0 not ahead of 4", sitsOf(x, 0, 4), -1);
    Check.due("P26 1 ahead of 2, though both by minute 1", sitsOf(x, 1, 2), 0);
    Check.due("P26 2 ahead of 3, though both behind minute 1", sitsOf(x, 2, 3), 0);
    Check.due("P26 3 not ahead of 2", sitsOf(x, 3, 2), -1);
    Check.due("P26 all in order", sitsOf(x, 4, 0, 2, 3), 0);
    x = Check.told("court;person strength 9;person strength 3;person strength 5;tune;");
    x.sit(0);
    Check.due("P26 one sat ahead", sitsOf(x, 0, 1), 4);
    Check.due("P26 one sat ahead of two", sitsOf(x, 0, 1, 2), 6);
    Check.due("P26 one sat too early", sitsOf(x, 1, 0), -1);
    x.evening();
    Check.due("P26 in the evening nobody sits", sitsOf(x, 0), -1);
  }

  /** Promise 27: as sits(); -3: also i is below 0; all ahead of NONE. */
  private static void sitsByCodes() {
    for (int i : new int[] {LOW, -1, 0, 7, HIGH}) {
      for (int t : new int[] {LOW, -1, 4, HIGH}) Twin.leaves("P27 sitsBy(" + t + ", " + i + ")", x -> x.sitsBy(t, i), -2);
      Twin.leaves("P27 missing, " + i, x -> x.sitsBy(3, i), -6);
      Twin.leaves("P27 no numbers, " + i, () -> with(0, 0), x -> x.sitsBy(0, i), -4);
      Twin.leaves("P27 seven numbers, " + i, () -> with(7, 77), x -> x.sitsBy(0, i), -4);
      Twin.leaves("P27 no person, " + i, () -> with(1, 4), x -> x.sitsBy(0, i), -3);
      Twin.leaves("P27 twice, " + i, () -> with(2, 0), x -> x.sitsBy(0, i), -3);
    }
    for (int i : new int[] {LOW, -2, -1}) {
      Twin.leaves("P27 sitsBy(2, " + i + ")", x -> x.sitsBy(2, i), -3);
      StandRank x = Check.told("court;person strength 0;person strength 0;tune;");
      Check.tray(x, 0, 0, 1);
      Check.due("P27 ahead of none does", x.sitsBy(0, i), -3);
    }
  }

  /** Promise 27: the i-th TUNE of it. NONE: not so many, none does. */
  private static void sitsByPlaces() {
    StandRank x = Check.told("court;person strength 0;person strength 0;person strength 1;tune;tune;tune;tires : if who = tune then 1 else 0 end;");
    Check.tray(x, 0, 2, 0, 1);
    int[] want = {2, 2, 0, 1};
    Check.due("P26 four", x.sits(0), 4);
    for (int i = 0; i < 4; i++) Check.due("P27 sitsBy(0, " + i + ")", x.sitsBy(0, i), want[i]);
    for (int i : new int[] {4, 5, 6, 7, 8, HIGH}) Check.due("P27 sitsBy(0, " + i + ")", x.sitsBy(0, i), -1);
    x = Check.told("court;person strength 0;person strength 0;tune;");
    Check.tray(x, 0, 0, 1);
    for (int i : new int[] {0, 1, 7, HIGH}) Check.due("P27 none does", x.sitsBy(0, i), -1);
    x.sit(0);
    Check.tray(x, 0, 0);
    Check.due("P27 none is needed", x.sitsBy(0, 0), -1);
  }

  /** Calls that ask change nothing. */
  private static void asksOnly() {
    // 1 has 4, tired by 2 and the tune; 0 has 6, tired by 1 and the tune
    Twin.leaves("P23 asks", x -> x.alone(0), 2);
    Twin.leaves("P24 asks", x -> x.aloneBy(0, 1), 1);
    Twin.leaves("P24 asks", x -> x.aloneBy(0, 2), -1);
    Twin.leaves("P26 asks", x -> x.sits(2), 4);
    Twin.leaves("P27 asks", x -> x.sitsBy(2, 0), 0);
  }
}
